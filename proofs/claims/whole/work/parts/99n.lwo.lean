/-! a law's text: the reference's lines -/
def LDr (s : LST) (u : WD) : Prop := (∀ i, i < s.1.length → u.1 (1865 + 4 * i) = (lgn s i).1 ∧ u.1 (1865 + 4 * i + 1) = (lgn s i).2.1 ∧ u.1 (1865 + 4 * i + 2) = nI (lsn s i) ∧ u.1 (1865 + 4 * i + 3) = nI (lgn s i).2.2) ∧
  ∀ i, i < s.2.length → u.1 (1913 + 2 * i) = stpc (cdn s i) ∧ u.1 (1913 + 2 * i + 1) = argc (cdn s i)
def zLA (k j : Nat) : Bool := zLM k j || (Nat.beq k 140 && (Nat.beq j 0 || (Nat.beq j 14 || Nat.beq j 16)))
theorem zLM_A {μ μ' : Mem} (e : Lz zLM μ' = Lz zLM μ) : Lz zLA μ' = Lz zLA μ := Lz_up (fun k j h => by unfold zLA; rw [h]; rfl) e
def zMl (k j : Nat) : Bool := zLA k j || (Nat.beq k 140 && (Nat.beq j 12 || Nat.beq j 19))
theorem zLA_l {μ μ' : Mem} (e : Lz zLA μ' = Lz zLA μ) : Lz zMl μ' = Lz zMl μ := Lz_up (fun k j h => by unfold zMl; rw [h]; rfl) e
def SN (f : Nat → Int32) (n a : Nat) (w : WD) (s : LST) (μ : Mem) : Prop := RK f n a μ ∧ (∃ u, E18 w u ∧ MW μ u ∧ LDr s u) ∧ mI μ 140 21 = nI s.2.length
def ENl (Φ : Out → Mem → Prop) (μ : Mem) (f : Nat → Int32) (n : Nat) (w : WD) (r : PRt LST) : Prop := ∀ μ', Lz zLM μ' = Lz zLM μ → (match r with
  | .inl x => SN f n x.2 w x.1 μ' → Φ (.inl (some (.int 1))) μ'
  | .inr b => mI μ' 140 17 = nI b → (∃ u', E18 w u' ∧ MW μ' u') → Φ (.inl (some (.int 0))) μ')
section LWO
variable {g : Gl} {Φ : Out → Mem → Prop} {μ : Mem} {f : Nat → Int32} {n a : Nat} {w u : WD} {s : LST}
theorem emL_lo : ∀ {c : CLs} {u : WD} {st j : Nat}, j < 1913 + 2 * st → (emL u st c).1 j = u.1 j := by
  intro c
  induction c with
  | nil => intro u st j _; rfl
  | cons x c ih =>
    intro u st j h
    show (emL (emW u st (stpc x) (argc x)) (st + 1) c).1 j = _
    rw [ih (by omega)]
    exact (upd_n (by omega)).trans (upd_n (by omega))
theorem emL_at : ∀ {c : CLs} {u : WD} {st i : Nat}, i < c.length → (emL u st c).1 (1913 + 2 * (st + i)) = stpc (c.getD i 0) ∧ (emL u st c).1 (1913 + 2 * (st + i) + 1) = argc (c.getD i 0) := by
  intro c
  induction c with
  | nil => intro u st i h; exact absurd h (Nat.not_lt_zero _)
  | cons x c ih =>
    intro u st i h
    cases i with
    | zero =>
      show (emL (emW u st (stpc x) (argc x)) (st + 1) c).1 (1913 + 2 * st) = stpc x ∧ (emL (emW u st (stpc x) (argc x)) (st + 1) c).1 (1913 + 2 * st + 1) = argc x
      rw [emL_lo (by omega), emL_lo (by omega)]
      exact ⟨(upd_n (by omega)).trans upd_s, upd_s⟩
    | succ i =>
      rw [List.length_cons] at h
      have := ih (u := emW u st (stpc x) (argc x)) (st := st + 1) (i := i) (by omega)
      rw [show st + 1 + i = st + (i + 1) by omega] at this
      exact this
theorem LDr_o {u' : WD} (h12 : s.1.length ≤ 12) (e : ∀ j, j < 1865 + 4 * s.1.length ∨ 1913 ≤ j → u'.1 j = u.1 j) (h : LDr s u) : LDr s u' := by
  refine ⟨fun i hi => ?_, fun i hi => ?_⟩
  · rw [e _ (by omega), e _ (by omega), e _ (by omega), e _ (by omega)]; exact h.1 i hi
  · rw [e _ (by omega), e _ (by omega)]; exact h.2 i hi
theorem E18_up {u : WD} {j : Nat} {x : Int32} (h : E18 w u) (hj : 1864 ≤ j) : E18 w (upd u.1 j x, u.2) := E18_tr h ⟨fun i hi => upd_n (by omega), rfl⟩
theorem MW_up {j : Nat} {x : Int32} (hj : 1864 ≤ j) (m : MW μ u) : MW (sI μ 141 j x) (upd u.1 j x, u.2) := by
  have hl : mL μ 140 6 = u.2 := mw_l m
  refine MW_of ?_ hl (E_WF (w := u) ⟨fun i hi => upd_n (by omega), rfl⟩ m.2)
  rw [rI_I, if_pos rfl, mw_i m]
theorem RK_141 {j : Nat} {x : Int32} (h : RK f n a μ) : RK f n a (sI μ 141 j x) := h
theorem ENl_tr {r : PRt LST} {μ1 : Mem} (H : ENl Φ μ f n w r) (e : Lz zLM μ1 = Lz zLM μ) : ENl Φ μ1 f n w r := fun μ' e' => H μ' (e'.trans e)
/-- behind the line's word -/
theorem m_lwT {kv : Int32} (hR : RK f n (nxt f n a) μ) (hu : E18 w u) (m : MW μ u) (hd : LDr s u) (hs : mI μ 140 21 = nI s.2.length) (h12 : s.1.length < 12) (hl : s.2.length ≤ a) (hg : a < nxt f n a) (ho : OKL s) (H : ENl Φ μ f n w (lnLk f n kv s a)) {X6 X8 X10 : Nat → Mem → Prop} :
    vp_in ((1865 : Int32) + (4 * nI s.1.length)) 2713 ∧ Spec g i_Mo_number 0 [.ref 140, .int 0, .int 99] (sI μ 141 (nx ((1865 : Int32) + (4 * nI s.1.length))) kv) (onI (fun r6 μ5 => vp_in (((1865 : Int32) + (4 * nI s.1.length)) + 1) 2713 ∧ vp_in (((1865 : Int32) + (4 * nI s.1.length)) + 1) 2713 ∧ (0 ≤ (mI (sI μ5 141 (nx (((1865 : Int32) + (4 * nI s.1.length)) + 1)) r6) 141 (nx (((1865 : Int32) + (4 * nI s.1.length)) + 1))) → vp_in (((1865 : Int32) + (4 * nI s.1.length)) + 2) 2713 ∧ Spec g i_Mo_passes 0 [.ref 140, .ref 1051] (sI (sI (sI μ5 141 (nx (((1865 : Int32) + (4 * nI s.1.length)) + 1)) r6) 141 (nx (((1865 : Int32) + (4 * nI s.1.length)) + 2)) (mI μ5 140 21)) 140 18 0) (onI (fun r8 μ7 => (r8 = 0 → vp_in (((1865 : Int32) + (4 * nI s.1.length)) + 3) 2713 ∧ ((1 : Int32) = 0 ∨ (1 : Int32) = 1) ∧ Φ (.inl (some (.int 1))) (sI μ7 141 (nx (((1865 : Int32) + (4 * nI s.1.length)) + 3)) (mI μ7 140 21))) ∧ (¬ r8 = 0 → ∃ dy11, CallR (rm i_Mo_readLawLine 0) i_Mo_readCond dy11 0 0 ∧ Spec g i_Mo_readCond dy11 [.ref 140] μ7 (onI (fun r10 μ9 => (¬ r10 = 0 → vp_in (((1865 : Int32) + (4 * nI s.1.length)) + 3) 2713 ∧ ((1 : Int32) = 0 ∨ (1 : Int32) = 1) ∧ Φ (.inl (some (.int 1))) (sI μ9 141 (nx (((1865 : Int32) + (4 * nI s.1.length)) + 3)) (mI μ9 140 21))) ∧ (r10 = 0 → ((0 : Int32) = 0 ∨ (0 : Int32) = 1) ∧ Φ (.inl (some (.int 0))) μ9)) X10))) X8)) ∧ (¬ 0 ≤ (mI (sI μ5 141 (nx (((1865 : Int32) + (4 * nI s.1.length)) + 1)) r6) 141 (nx (((1865 : Int32) + (4 * nI s.1.length)) + 1))) → ((0 : Int32) = 0 ∨ (0 : Int32) = 1) ∧ Φ (.inl (some (.int 0))) (sI μ5 141 (nx (((1865 : Int32) + (4 * nI s.1.length)) + 1)) r6))) X6) := by
  have n4 := hR.1.1
  have i1 : (1865 : Int32) + 4 * nI s.1.length = nI (1865 + 4 * s.1.length) := by rw [show (1865 : Int32) = nI 1865 from rfl, show (4 : Int32) = nI 4 from rfl, pk_mul, nI_add]
  have i2 : nI (1865 + 4 * s.1.length) + 1 = nI (1865 + 4 * s.1.length + 1) := nI_add _ 1
  have i3 : nI (1865 + 4 * s.1.length) + 2 = nI (1865 + 4 * s.1.length + 2) := nI_add _ 2
  have i4 : nI (1865 + 4 * s.1.length) + 3 = nI (1865 + 4 * s.1.length + 3) := nI_add _ 3
  have v3 : vp_in (nI (1865 + 4 * s.1.length + 3)) 2713 := vp_in_nI (by omega) (by decide)
  rw [i1, i2, i3, i4, nx_nI (show 1865 + 4 * s.1.length < 2 ^ 31 by omega), nx_nI (show 1865 + 4 * s.1.length + 1 < 2 ^ 31 by omega), nx_nI (show 1865 + 4 * s.1.length + 2 < 2 ^ 31 by omega), nx_nI (show 1865 + 4 * s.1.length + 3 < 2 ^ 31 by omega)]
  refine ⟨vp_in_nI (by omega) (by decide), ?_⟩
  have m1 := MW_up (j := 1865 + 4 * s.1.length) (x := kv) (by omega) m
  have u1 := E18_up (j := 1865 + 4 * s.1.length) (x := kv) hu (by omega)
  have d1 : LDr s (upd u.1 (1865 + 4 * s.1.length) kv, u.2) := LDr_o (by omega) (fun j hj => upd_n (by omega)) hd
  have c1 : (upd u.1 (1865 + 4 * s.1.length) kv) (1865 + 4 * s.1.length) = kv := upd_s
  have s1 : mI (sI μ 141 (1865 + 4 * s.1.length) kv) 140 21 = nI s.2.length := hs
  have R1 : RK f n (nxt f n a) (sI μ 141 (1865 + 4 * s.1.length) kv) := hR
  have z1 : Lz zLM (sI μ 141 (1865 + 4 * s.1.length) kv) = Lz zLM μ := Lz_I rfl
  generalize (sI μ 141 (1865 + 4 * s.1.length) kv) = μ1 at *
  generalize hU1 : ((upd u.1 (1865 + 4 * s.1.length) kv, u.2) : WD) = U1 at *
  have c1 : U1.1 (1865 + 4 * s.1.length) = kv := by rw [← hU1]; exact c1
  unfold lnLk tnP at H
  refine m_num R1 (by decide) (fun hno μ2 e2 hB2 hb2 => oI ⟨vp_in_nI (by omega) (by decide), vp_in_nI (by omega) (by decide), ?_⟩) fun hno μ2 e2 R2 hb2 => oI ⟨vp_in_nI (by omega) (by decide), vp_in_nI (by omega) (by decide), ?_⟩
  · rw [rI_I, if_pos rfl, upd_s]
    refine ⟨fun q => absurd q n1nl, fun _ => z01 ?_⟩
    rw [if_neg (by rw [hno]; decide)] at H
    exact H _ ((Lz_I rfl).trans ((zPt_LM e2).trans z1)) hb2 ⟨_, E18_up u1 (by omega), MW_up (by omega) (MW_pt m1 e2)⟩
  · rw [rI_I, if_pos rfl, upd_s]
    rw [if_pos hno] at H
    simp only [bdP] at H
    obtain ⟨v, -, v1, v2⟩ := nok_b (lo := 0) (m := 99) (by omega) (by omega) hno
    have h0 : (0 : Int32) ≤ nb f n (nxt f n a) := by rw [v2]; exact nI_pos' (by omega)
    refine ⟨fun _ => ⟨vp_in_nI (by omega) (by decide), ?_⟩, fun q => absurd h0 q⟩
    have hg2 : nxt f n a < nxt f n (nxt f n a) := nxt_gt (by rw [kd_nok hno]; decide)
    generalize hx : nb f n (nxt f n a) = x at *
    have s2 : mI μ2 140 21 = nI s.2.length := (rdI1 e2 rfl).trans s1
    rw [s2]
    have m2 := MW_up (j := 1865 + 4 * s.1.length + 2) (x := nI s.2.length) (by omega) (MW_up (j := 1865 + 4 * s.1.length + 1) (x := x) (by omega) (MW_pt m1 e2))
    have u2 := E18_up (j := 1865 + 4 * s.1.length + 2) (x := nI s.2.length) (E18_up (j := 1865 + 4 * s.1.length + 1) (x := x) u1 (by omega)) (by omega)
    dsimp only at m2 u2
    generalize hU2 : ((upd (upd U1.1 (1865 + 4 * s.1.length + 1) x) (1865 + 4 * s.1.length + 2) (nI s.2.length), U1.2) : WD) = U2 at *
    have o2 : ∀ j, j ≠ 1865 + 4 * s.1.length + 1 → j ≠ 1865 + 4 * s.1.length + 2 → U2.1 j = U1.1 j := fun j h1 h2 => by rw [← hU2]; exact (upd_n h2).trans (upd_n h1)
    have d2 : LDr s U2 := LDr_o (by omega) (fun j hj => o2 j (by omega) (by omega)) d1
    have c2 : U2.1 (1865 + 4 * s.1.length) = kv := (o2 _ (by omega) (by omega)).trans c1
    have c3 : U2.1 (1865 + 4 * s.1.length + 1) = x := by rw [← hU2]; exact (upd_n (by omega)).trans upd_s
    have c4 : U2.1 (1865 + 4 * s.1.length + 2) = nI s.2.length := by rw [← hU2]; exact upd_s
    have S3 : SL f n (nxt f n (nxt f n a)) U2 s.2.length 0 (sI (sI (sI μ2 141 (1865 + 4 * s.1.length + 1) x) 141 (1865 + 4 * s.1.length + 2) (nI s.2.length)) 140 18 0) := ⟨R2, ⟨m2.1, m2.2⟩, s2, by rw [rI_I, if_pos rfl, upd_s]; rfl⟩
    have z3 : Lz zLM (sI (sI (sI μ2 141 (1865 + 4 * s.1.length + 1) x) 141 (1865 + 4 * s.1.length + 2) (nI s.2.length)) 140 18 0) = Lz zLM μ := (Lz_I rfl).trans ((Lz_I rfl).trans ((Lz_I rfl).trans ((zPt_LM e2).trans z1)))
    generalize (sI (sI (sI μ2 141 (1865 + 4 * s.1.length + 1) x) 141 (1865 + 4 * s.1.length + 2) (nI s.2.length)) 140 18 0) = μ3 at *
    have fin : ∀ (c : CLs) (b : Nat) (μ4 : Mem), Lz zLM μ4 = Lz zLM μ → SL f n b (emL U2 s.2.length c) (s.2.length + c.length) 0 μ4 → ENl Φ μ f n w (.inl (adn s kv x c, b)) → Φ (.inl (some (.int 1))) (sI μ4 141 (1865 + 4 * s.1.length + 3) (mI μ4 140 21)) := by
      intro c b μ4 e4 S4 H
      have hls := ho.2.1
      rw [S4.2.2.1]
      have m4 := MW_up (j := 1865 + 4 * s.1.length + 3) (x := nI (s.2.length + c.length)) (by omega) S4.2.1
      refine H _ ((Lz_I rfl).trans e4) ⟨S4.1, ⟨_, E18_up (E18_tr u2 emL_18) (by omega), m4, ?_⟩, ?_⟩
      · refine ⟨fun i hi => ?_, fun i hi => ?_⟩
        · rw [adn_n] at hi
          dsimp only
          by_cases e : i = s.1.length
          · rw [e, adn_hi, adn_ls (Nat.le_refl _), hls]
            refine ⟨?_, ?_, ?_, upd_s⟩
            · rw [upd_n (by omega), emL_lo (by omega)]; exact c2
            · rw [upd_n (by omega), emL_lo (by omega)]; exact c3
            · rw [upd_n (by omega), emL_lo (by omega)]; exact c4
          · rw [adn_lo (by omega), adn_ls (by omega), upd_n (by omega), upd_n (by omega), upd_n (by omega), upd_n (by omega), emL_lo (by omega), emL_lo (by omega), emL_lo (by omega), emL_lo (by omega)]
            exact d2.1 i (by omega)
        · rw [adn_m] at hi
          dsimp only
          rw [upd_n (by omega), upd_n (by omega)]
          by_cases e : i < s.2.length
          · rw [adn_cl e, emL_lo (by omega), emL_lo (by omega)]; exact d2.2 i e
          · obtain ⟨t, ht⟩ : ∃ t, i = s.2.length + t := ⟨i - s.2.length, by omega⟩
            rw [ht, adn_cr]; exact emL_at (by omega)
      · rw [adn_m]; exact S4.2.2.1
    refine m_pasB S3.1 (bs := bIf) wk_1051 rfl (by decide) (by decide) (fun h μ4 e4 R4 b4 => oI ⟨fun _ => ⟨v3, z11 ?_⟩, fun q => absurd rfl q⟩) (fun h μ4 e4 R4 b4 => oI ⟨fun q => absurd q (by decide), fun _ => ?_⟩)
    · rw [if_neg (by rw [h]; decide)] at H
      exact fin [] _ μ4 ((zPt_LM e4).trans z3) (SL_pt S3 e4 R4) H
    · rw [if_pos h] at H
      have hg3 := nxt_gt (wdm_n0 h)
      refine ⟨40, callR_rm (show 8 + 40 + 1 ≤ 49 + 0 by omega) rfl, m_cond (SL_pt S3 e4 R4) (by omega) (by omega) fun μ5 e5 => ?_⟩
      have z5 := e5.trans ((zPt_LM e4).trans z3)
      cases hr : LPu f n 3 (nxt f n (nxt f n (nxt f n a))) 0 with
      | inr b =>
        intro hb ⟨u', h1, h2⟩
        rw [hr] at H
        exact oI ⟨fun q => absurd rfl q, fun _ => z01 (H μ5 z5 hb ⟨u', E18_tr u2 h1, h2⟩)⟩
      | inl y =>
        intro S5
        rw [hr] at H
        exact oI ⟨fun _ => ⟨v3, z11 (fin y.1 y.2 μ5 z5 S5 H)⟩, fun q => absurd q (by decide)⟩
theorem wdm_ln {b1 b2 : CLs} (h : wdm f n a b1 = true) (hl : b1.length ≠ b2.length) : wdm f n a b2 = false := by
  cases h2 : wdm f n a b2 with
  | false => rfl
  | true =>
    unfold wdm at h h2
    simp only [Bool.and_eq_true, decide_eq_true_eq] at h h2
    exact absurd (h.2.1.symm.trans h2.2.1) hl
theorem m_rLL (hB : RBf f n μ) (ha : a ≤ n) (hp : mI μ 140 15 = nI (enL f n a)) (hb : mI μ 140 17 = nI a) (hu : E18 w u) (m : MW μ u) (hd : LDr s u) (hs : mI μ 140 21 = nI s.2.length) (h12 : s.1.length < 12) (hl : s.2.length ≤ a) (ho : OKL s) (H : ENl Φ μ f n w (lnL f n s a)) : Spec g i_Mo_readLawLine 0 [.ref 140, .int (nI s.1.length)] μ Φ := by
  unfold lnL at H
  refine spi o_Mo_readLawLine rfl (v_Mo_readLawLine_0 (m_wL hB ha hp hb (bs := bAs) wk_1048 rfl (by decide) (by decide) (oI ⟨fun h1 => ?_, fun h1 => ?_⟩)))
  · have w1 := b2i_n0.mp h1
    rw [if_neg (by rw [wdm_ln (b2 := bFa) w1 (by decide)]; decide), if_neg (by rw [wdm_ln (b2 := bNe) w1 (by decide)]; decide), if_pos w1] at H
    exact ⟨fun q => absurd q h1, fun _ => m_lwT (RK_L hB ha hp w1) hu m hd hs h12 hl (nxt_gt (wdm_n0 w1)) ho H⟩
  · have w1 := b2i_0.mp h1
    refine m_wL hB ha hp hb (bs := bFa) wk_1049 rfl (by decide) (by decide) (oI ⟨fun h2 => ?_, fun h2 => ?_⟩)
    · have w2 := b2i_n0.mp h2
      rw [if_pos w2] at H
      refine ⟨fun _ => m_wL hB ha hp hb (bs := bFa) wk_1049 rfl (by decide) (by decide) (oI ⟨fun h3 => absurd h3 h2, fun _ => ?_⟩), fun q => absurd h1 q⟩
      exact m_lwT (RK_L hB ha hp w2) hu m hd hs h12 hl (nxt_gt (wdm_n0 w2)) ho H
    · have w2 := b2i_0.mp h2
      rw [if_neg (by rw [w2]; decide)] at H
      refine m_wL hB ha hp hb (bs := bNe) wk_1050 rfl (by decide) (by decide) (oI ⟨fun h3 => ?_, fun h3 => ?_⟩)
      · have w3 := b2i_n0.mp h3
        rw [if_pos w3] at H
        refine ⟨fun _ => m_wL hB ha hp hb (bs := bFa) wk_1049 rfl (by decide) (by decide) (oI ⟨fun _ => ?_, fun h4 => absurd h2 h4⟩), fun q => absurd h1 q⟩
        exact m_lwT (RK_L hB ha hp w3) hu m hd hs h12 hl (nxt_gt (wdm_n0 w3)) ho H
      · have w3 := b2i_0.mp h3
        rw [if_neg (by rw [w3]; decide), if_neg (by rw [w1]; decide)] at H
        exact z01 (H μ rfl hb ⟨u, hu, m⟩)
end LWO
