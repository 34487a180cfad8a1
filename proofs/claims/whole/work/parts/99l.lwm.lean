/-! a law's text: the reference's reader of a condition -/
theorem isT_rm {mi mj : MI} {dx : Nat} {X : Prop} (h : (Nat.ble (miD mj + 1) (miD mi) && (Nat.ble (miK mj) (miK mi) && Nat.ble (miS mj) (miS mi))) = true) (hX : X) : isT (rmB (rm mi dx) mj 0 0) X := by
  simp only [Bool.and_eq_true, Nat.ble_eq] at h
  have e : rmB (rm mi dx) mj 0 0 = true := by
    unfold rmB rm
    simp only [Bool.and_eq_true, Nat.ble_eq]
    exact ⟨⟨⟨by omega, by omega⟩, by omega⟩, by omega⟩
  rw [e]; exact hX
theorem callR_rm {mi mj : MI} {dx dy : Nat} (h : miD mj + dy + 1 ≤ miD mi + dx) (h2 : (Nat.ble (miK mj) (miK mi) && Nat.ble (miS mj) (miS mi)) = true) : CallR (rm mi dx) mj dy 0 0 := by
  simp only [Bool.and_eq_true, Nat.ble_eq] at h2
  unfold CallR rm
  exact ⟨h, by dsimp only; omega, by dsimp only; omega, by dsimp only; omega⟩
def emW (u : WD) (st : Nat) (x y : Int32) : WD := (upd (upd u.1 (1913 + 2 * st) x) (1913 + 2 * st + 1) y, u.2)
theorem emW_18 {u : WD} {st : Nat} {x y : Int32} : E18 u (emW u st x y) := ⟨fun j hj => (upd_n (by omega)).trans (upd_n (by omega)), rfl⟩
def emL (u : WD) : Nat → CLs → WD
  | _, [] => u
  | st, c :: cs => emL (emW u st (stpc c) (argc c)) (st + 1) cs
theorem emL_app {e : CLs} : ∀ {c : CLs} {u : WD} {st : Nat}, emL u st (c ++ e) = emL (emL u st c) (st + c.length) e := by
  intro c
  induction c with
  | nil => intro u st; rfl
  | cons x c ih =>
    intro u st
    show emL (emW u st (stpc x) (argc x)) (st + 1) (c ++ e) = emL (emL (emW u st (stpc x) (argc x)) (st + 1) c) (st + (c.length + 1)) e
    rw [ih, show st + 1 + c.length = st + (c.length + 1) by omega]
theorem emL_18 : ∀ {c : CLs} {u : WD} {st : Nat}, E18 u (emL u st c) := by
  intro c
  induction c with
  | nil => intro u st; exact E18_rfl
  | cons x c ih => intro u st; exact E18_tr emW_18 ih
def zEm (k j : Nat) : Bool := Nat.beq k 141 || (Nat.beq k 140 && Nat.beq j 21)
def zLM (k j : Nat) : Bool := Nat.beq k 141 || (Nat.beq k 140 && (Nat.beq j 15 || (Nat.beq j 17 || (Nat.beq j 18 || Nat.beq j 21))))
theorem zPt_LM {μ μ' : Mem} (e : Lz zPt μ' = Lz zPt μ) : Lz zLM μ' = Lz zLM μ := Lz_up (fun k j h => by
  unfold zPt at h; unfold zLM
  simp only [Bool.or_eq_true, Bool.and_eq_true, Nat.beq_eq] at h ⊢
  omega) e
theorem zEm_LM {μ μ' : Mem} (e : Lz zEm μ' = Lz zEm μ) : Lz zLM μ' = Lz zLM μ := Lz_up (fun k j h => by
  unfold zEm at h; unfold zLM
  simp only [Bool.or_eq_true, Bool.and_eq_true, Nat.beq_eq] at h ⊢
  omega) e
def SL (f : Nat → Int32) (n a : Nat) (u : WD) (st k : Nat) (μ : Mem) : Prop := RK f n a μ ∧ MW μ u ∧ mI μ 140 21 = nI st ∧ mI μ 140 18 = nI k
def EL (Φ : Out → Mem → Prop) (μ : Mem) (f : Nat → Int32) (n : Nat) (u : WD) (st k : Nat) (r : PRt CLs) : Prop := ∀ μ', Lz zLM μ' = Lz zLM μ → (match r with
  | .inl x => SL f n x.2 (emL u st x.1) (st + x.1.length) k μ' → Φ (.inl (some (.int 1))) μ'
  | .inr b => mI μ' 140 17 = nI b → (∃ u', E18 u u' ∧ MW μ' u') → Φ (.inl (some (.int 0))) μ')
section LWM
variable {g : Gl} {Φ : Out → Mem → Prop} {μ : Mem} {f : Nat → Int32} {n a st k : Nat} {u : WD}
theorem RK_em {μ' : Mem} (e : Lz zEm μ' = Lz zEm μ) (h : RK f n a μ) : RK f n a μ' := by
  obtain ⟨⟨h1, h2, h3⟩, h4, h5, q, h6, h7, h8⟩ := h
  exact ⟨⟨h1, (rdI e fun _ => rfl : mI μ' 147 = mI μ 147).trans h2, (rdI1 e rfl : mI μ' 140 16 = mI μ 140 16).trans h3⟩, h4, h5, q, h6, (rdI1 e rfl : mI μ' 140 15 = mI μ 140 15).trans h7, h8⟩
theorem RB_em {μ' : Mem} (e : Lz zEm μ' = Lz zEm μ) (h : RBf f n μ) : RBf f n μ' := ⟨h.1, (rdI e fun _ => rfl : mI μ' 147 = mI μ 147).trans h.2.1, (rdI1 e rfl : mI μ' 140 16 = mI μ 140 16).trans h.2.2⟩
theorem m_emi {x y : Int32} (m : MW μ u) (hs : mI μ 140 21 = nI st) (h : st < 400) (H : ∀ μ', Lz zEm μ' = Lz zEm μ → MW μ' (emW u st x y) → mI μ' 140 21 = nI (st + 1) → Φ (.inl none) μ') : Spec g i_Mo_emits 0 [.ref 140, .int x, .int y] μ Φ := by
  have e1 : (1913 : Int32) + 2 * mI μ 140 21 = nI (1913 + 2 * st) := by rw [hs, show (1913 : Int32) = nI 1913 from rfl, show (2 : Int32) = nI 2 from rfl, pk_mul, nI_add]
  have hl : mL μ 140 6 = u.2 := mw_l m
  refine spi o_Mo_emits rfl (v_Mo_emits_0 ?_)
  rw [e1, ← nI_succ, nx_nI (by omega), nx_nI (by omega), hs, ← nI_succ]
  refine ⟨vp_in_nI (by omega) (by decide), vp_in_nI (by omega) (by decide), H _ ((Lz_I rfl).trans ((Lz_I rfl).trans (Lz_I rfl))) (MW_of ?_ hl (E_WF emW_18 m.2)) ?_⟩
  · rw [rI_I, if_neg (by decide), rI_I, if_pos rfl, rI_I, if_pos rfl, mw_i m]; rfl
  · rw [rI_I, if_pos rfl, upd_s]
theorem EL_tr {r : PRt CLs} {μ1 : Mem} (H : EL Φ μ f n u st k r) (e : Lz zLM μ1 = Lz zLM μ) : EL Φ μ1 f n u st k r := fun μ' e' => H μ' (e'.trans e)
theorem EL_pre {r : PRt CLs} {μ1 : Mem} {c : CLs} (H : EL Φ μ f n u st k (preP c r)) (e : Lz zLM μ1 = Lz zLM μ) : EL Φ μ1 f n (emL u st c) (st + c.length) k r := by
  intro μ' e'
  have H' := H μ' (e'.trans e)
  cases r with
  | inl x =>
    intro S
    refine H' ?_
    show SL f n x.2 (emL u st (c ++ x.1)) (st + (c ++ x.1).length) k μ'
    rw [emL_app, List.length_append, ← Nat.add_assoc]; exact S
  | inr b =>
    intro hb ⟨u', h1, h2⟩
    exact H' hb ⟨u', E18_tr emL_18 h1, h2⟩
/-- the end, one code after what came -/
theorem EL_1 {μ1 : Mem} {c : CLs} {x : Int32} {b : Nat} (H : EL Φ μ f n u st k (.inl (c ++ [x], b))) (e : Lz zLM μ1 = Lz zLM μ) (S : SL f n b (emW (emL u st c) (st + c.length) (stpc x) (argc x)) (st + c.length + 1) k μ1) : Φ (.inl (some (.int 1))) μ1 := by
  refine H μ1 e ?_
  show SL f n b (emL u st (c ++ [x])) (st + (c ++ [x]).length) k μ1
  rw [emL_app, List.length_append, ← Nat.add_assoc]; exact S
theorem m_pasB {w : Nat} {bs : List Int32} (hR : RK f n a μ) (hW : WOK w bs) (hs : isS w = true) (hl : bs.length < 20) (hl0 : 0 < bs.length)
    (H0 : wdm f n a bs = false → ∀ μ', Lz zPt μ' = Lz zPt μ → RK f n a μ' → mI μ' 140 17 = nI a → Φ (.inl (some (.int 0))) μ') (H1 : wdm f n a bs = true → ∀ μ', Lz zPt μ' = Lz zPt μ → RK f n (nxt f n a) μ' → mI μ' 140 17 = nI a → Φ (.inl (some (.int 1))) μ') : Spec g i_Mo_passes 0 [.ref 140, .ref w] μ Φ := by
  refine spi o_Mo_passes rfl (v_Mo_passes_0 (m_let hR fun μ1 e1 hB1 hp1 hb1 => oV (m_wL hB1 hR.2.1 hp1 hb1 hW hs hl hl0 (oI ⟨fun h => z01 ?_, fun h => z11 ?_⟩))))
  · rw [hb1]
    refine H0 (b2i_0.mp h) _ ((Lz_I rfl).trans e1) (RK_at hB1 hR.2.1 hR.2.2.1 ?_) ?_
    · rw [rI_I, if_pos rfl, upd_s]
    · rw [rI_I, if_pos rfl, upd_n (by decide)]; exact hb1
  · exact H1 (b2i_n0.mp h) μ1 e1 (RK_L hB1 hR.2.1 hp1 (b2i_n0.mp h)) hb1
theorem m_sgnB {c : Int32} (hc : (decide (97 ≤ c) && decide (c ≤ 122)) = false ∧ (decide (48 ≤ c) && decide (c ≤ 57)) = false) (hR : RK f n a μ)
    (H0 : sgn f n a c = false → ∀ μ', Lz zPt μ' = Lz zPt μ → RK f n a μ' → mI μ' 140 17 = nI a → Φ (.inl (some (.int 0))) μ') (H1 : sgn f n a c = true → ∀ μ', Lz zPt μ' = Lz zPt μ → RK f n (nxt f n a) μ' → mI μ' 140 17 = nI a → Φ (.inl (some (.int 1))) μ') : Spec g i_Mo_sign 0 [.ref 140, .int c] μ Φ := by
  refine spi o_Mo_sign rfl (v_Mo_sign_0 (m_blk hR fun μ1 e1 hB1 hp1 hb1 => oV (m_isA hB1 hR.2.1 hp1 (oI ?_))))
  rw [← sgn_is hc]
  refine ⟨fun h => z11 ?_, fun h => z01 ?_⟩
  · refine H1 (b2i_n0.mp h) _ ((Lz_I rfl).trans e1) (RK_nx hB1 hR.2.1 ?_) ?_
    · have : en f n a = a + 1 := by unfold en; rw [sgn_3 (b2i_n0.mp h)]; rfl
      rw [rI_I, if_pos rfl, upd_s, hp1, this, nI_succ]
    · rw [rI_I, if_pos rfl, upd_n (by decide)]; exact hb1
  · exact H0 (b2i_0.mp h) μ1 e1 (RK_at hB1 hR.2.1 hR.2.2.1 hp1) hb1
theorem SL_pt {μ1 : Mem} {b : Nat} (S : SL f n a u st k μ) (e : Lz zPt μ1 = Lz zPt μ) (hR : RK f n b μ1) : SL f n b u st k μ1 := ⟨hR, MW_pt S.2.1 e, (rdI1 e rfl : mI μ1 140 21 = mI μ 140 21).trans S.2.2.1, (rdI1 e rfl : mI μ1 140 18 = mI μ 140 18).trans S.2.2.2⟩
theorem m_par (S : SL f n a u st k μ) (h4 : st < 400) (H : EL Φ μ f n u st k (ptP f n a)) : Spec g i_Mo_readPart 0 [.ref 140] μ Φ := by
  obtain ⟨hR, m, hs, hk⟩ := S
  have ha := hR.2.1
  refine spi o_Mo_readPart rfl (v_Mo_readPart_0 (m_let hR fun μ1 e1 hB hp hb => oV ?_))
  have m1 := MW_pt m e1
  have s1 : mI μ1 140 21 = nI st := (rdI1 e1 rfl).trans hs
  have k1 : mI μ1 140 18 = nI k := (rdI1 e1 rfl).trans hk
  have bad : ∀ {x y : Int32} {μ2 μ' : Mem}, EL Φ μ f n u st k (.inr a) → Lz zPt μ2 = Lz zPt μ → mI μ2 140 17 = nI a → Lz zEm μ' = Lz zEm μ2 → MW μ' (emW u st x y) → Φ (.inl (some (.int 0))) μ' := fun H e2 h2 e' m' =>
    H _ ((zEm_LM e').trans (zPt_LM e2)) ((rdI1 e' rfl).trans h2) ⟨_, emW_18, m'⟩
  unfold ptP at H
  rw [hp, hb]
  refine ⟨fun hne => ?_, fun heq => ?_⟩
  · have hk1 : kd f n a = 1 := by
      by_cases q : kd f n a = 1
      · exact q
      · exact absurd (by unfold enL; rw [if_neg q]) hne
    rw [if_pos hk1] at H
    have hit : ∀ j, j < 7 → EL Φ μ f n u st k (.inl ([-1 - nI j], nxt f n a)) → ∀ μ', Lz zEm μ' = Lz zEm μ1 → MW μ' (emW u st (nI j) 0) → mI μ' 140 21 = nI (st + 1) → Φ (.inl (some (.int 1))) μ' := by
      intro j hj H μ' e' m' s'
      have hc : stpc (-1 - nI j) = nI j ∧ argc (-1 - nI j) = 0 := (by decide : ∀ j, j < 7 → stpc (-1 - nI j) = nI j ∧ argc (-1 - nI j) = 0) j hj
      refine H μ' ((zEm_LM e').trans (zPt_LM e1)) ⟨RK_em e' (RK_nx hB ha ?_), ?_, s', (rdI1 e' rfl).trans k1⟩
      · rw [hp]; unfold enL; rw [if_pos hk1]
      · show MW μ' (emW u st (stpc (-1 - nI j)) (argc (-1 - nI j)))
        rw [hc.1, hc.2]; exact m'
    refine m_wL hB ha hp hb (bs := bTh) wk_1039 rfl (by decide) (by decide) (oI ⟨fun q => ?_, fun q => ?_⟩)
    rotate_left
    · rw [if_pos (b2i_n0.mp q)] at H
      exact m_emi m1 s1 h4 fun μ' e' m' s' => oV ⟨fun q => absurd q (by decide), fun _ => z11 (hit 0 (by decide) H μ' e' m' s')⟩
    rw [if_neg (by rw [b2i_0.mp q]; decide)] at H
    refine m_wL hB ha hp hb (bs := bWo) wk_1054 rfl (by decide) (by decide) (oI ⟨fun q => ?_, fun q => ?_⟩)
    rotate_left
    · rw [if_pos (b2i_n0.mp q)] at H
      exact m_emi m1 s1 h4 fun μ' e' m' s' => oV ⟨fun q => absurd q (by decide), fun _ => z11 (hit 1 (by decide) H μ' e' m' s')⟩
    rw [if_neg (by rw [b2i_0.mp q]; decide)] at H
    refine m_wL hB ha hp hb (bs := bWh) wk_1055 rfl (by decide) (by decide) (oI ⟨fun q => ?_, fun q => ?_⟩)
    rotate_left
    · rw [if_pos (b2i_n0.mp q)] at H
      exact m_emi m1 s1 h4 fun μ' e' m' s' => oV ⟨fun q => absurd q (by decide), fun _ => z11 (hit 2 (by decide) H μ' e' m' s')⟩
    rw [if_neg (by rw [b2i_0.mp q]; decide)] at H
    refine m_wL hB ha hp hb (bs := bWm) wk_1056 rfl (by decide) (by decide) (oI ⟨fun q => ?_, fun q => ?_⟩)
    rotate_left
    · rw [if_pos (b2i_n0.mp q)] at H
      exact m_emi m1 s1 h4 fun μ' e' m' s' => oV ⟨fun q => absurd q (by decide), fun _ => z11 (hit 3 (by decide) H μ' e' m' s')⟩
    rw [if_neg (by rw [b2i_0.mp q]; decide)] at H
    refine m_wL hB ha hp hb (bs := bAp) wk_1057 rfl (by decide) (by decide) (oI ⟨fun q => ?_, fun q => ?_⟩)
    rotate_left
    · rw [if_pos (b2i_n0.mp q)] at H
      exact m_emi m1 s1 h4 fun μ' e' m' s' => oV ⟨fun q => absurd q (by decide), fun _ => z11 (hit 4 (by decide) H μ' e' m' s')⟩
    rw [if_neg (by rw [b2i_0.mp q]; decide)] at H
    refine m_wL hB ha hp hb (bs := bEa) wk_1041 rfl (by decide) (by decide) (oI ⟨fun q => ?_, fun q => ?_⟩)
    rotate_left
    · rw [if_pos (b2i_n0.mp q)] at H
      exact m_emi m1 s1 h4 fun μ' e' m' s' => oV ⟨fun q => absurd q (by decide), fun _ => z11 (hit 5 (by decide) H μ' e' m' s')⟩
    rw [if_neg (by rw [b2i_0.mp q]; decide)] at H
    refine m_wL hB ha hp hb (bs := bDa) wk_1058 rfl (by decide) (by decide) (oI ⟨fun q => ?_, fun q => ?_⟩)
    rotate_left
    · rw [if_pos (b2i_n0.mp q)] at H
      exact m_emi m1 s1 h4 fun μ' e' m' s' => oV ⟨fun q => absurd q (by decide), fun _ => z11 (hit 6 (by decide) H μ' e' m' s')⟩
    rw [if_neg (by rw [b2i_0.mp q]; decide)] at H
    exact m_emi m1 s1 h4 fun μ' e' m' s' => oV ⟨fun _ => z01 (bad H e1 hb e' m'), fun q => absurd (by decide) q⟩
  · have hk1 : ¬ kd f n a = 1 := by
      intro q
      have e2 : enL f n a = en f n a := by unfold enL; rw [if_pos q]
      have g1 : a < en f n a := en_gt (by rw [q]; decide)
      have l1 := en_le (f := f) ha
      have n4 := hB.1
      rw [e2] at heq
      have := nI_inj (by omega) (by omega) heq
      omega
    rw [if_neg hk1] at H
    have hp' : mI μ1 140 15 = nI a := by rw [hp]; unfold enL; rw [if_neg hk1]
    refine m_num (RK_at hB ha hR.2.2.1 hp') (by decide) (fun hno μ2 e2 hB2 hb2 => oI ?_) fun hno μ2 e2 hR2 hb2 => oI ?_
    · rw [if_neg (by rw [hno]; decide)] at H
      exact m_emi (MW_pt m1 e2) ((rdI1 e2 rfl).trans s1) h4 fun μ' e' m' s' => oV ⟨fun _ => z01 (bad H (e2.trans e1) hb2 e' m'), fun q => absurd (by decide) q⟩
    · rw [if_pos hno] at H
      obtain ⟨v, -, v1, v2⟩ := nok_b (lo := 0) (m := 999) (by omega) (by omega) hno
      have h0 : (0 : Int32) ≤ nb f n a := by rw [v2]; exact nI_pos' (by omega)
      refine m_emi (MW_pt m1 e2) ((rdI1 e2 rfl).trans s1) h4 fun μ' e' m' s' => oV ⟨fun q => absurd q (Int32.not_lt.mpr h0), fun _ => z11 (H μ' ((zEm_LM e').trans ((zPt_LM e2).trans (zPt_LM e1))) ⟨RK_em e' hR2, ?_, s', (rdI1 e' rfl).trans ((rdI1 e2 rfl).trans k1)⟩)⟩
      show MW μ' (emW u st (stpc (nb f n a)) (argc (nb f n a)))
      unfold stpc argc
      rw [if_pos h0, if_pos h0]; exact m'
theorem hcS {c : Int32} (h : c = 40 ∨ c = 41 ∨ c = 43 ∨ c = 60 ∨ c = 62) : (decide (97 ≤ c) && decide (c ≤ 122)) = false ∧ (decide (48 ≤ c) && decide (c ≤ 57)) = false := by
  rcases h with e | e | e | e | e <;> rw [e] <;> decide
theorem m_sum9 : ∀ d a u st μ, n - a < d → SL f n a u st k μ → st ≤ a → EL Φ μ f n u st k (smTl f n d a) → WW g i_Mo_readSum 0 Φ 0 0 9 [(0, .ref 140)] [] μ := by
  intro d
  induction d with
  | zero => intro a u st μ h; omega
  | succ d ih =>
    intro a u st μ hd S hst H
    have n4 := S.1.1.1
    have ha := S.1.2.1
    unfold smTl at H
    refine v_Mo_readSum_9 (m_sgnB (hcS (by decide)) S.1 (fun h μ1 e1 R1 _ => oI ⟨fun _ => z11 ?_, fun q => absurd rfl q⟩) (fun h μ1 e1 R1 _ => oI ⟨fun q => absurd q (by decide), fun _ => ?_⟩))
    · rw [if_neg (by rw [h]; decide)] at H
      exact H μ1 (zPt_LM e1) (SL_pt S e1 R1)
    · rw [if_pos h] at H
      have hgt := nxt_gt (sgn_k h)
      have hle := nxt_le (f := f) ha
      refine m_par (SL_pt S e1 R1) (by omega) fun μ2 e2 => ?_
      cases hr : ptP f n (nxt f n a) with
      | inr b =>
        intro hb hu
        rw [hr] at H
        exact oI ⟨fun q => absurd rfl q, fun _ => z01 (H μ2 (e2.trans (zPt_LM e1)) hb hu)⟩
      | inl x =>
        intro S2
        rw [hr] at H
        obtain ⟨a1, a2, a3⟩ := ptP_adv hle x hr
        obtain ⟨p1, -, -⟩ := ptP_g hle x hr
        refine oI ⟨fun _ => ?_, fun q => absurd q (by decide)⟩
        refine m_emi S2.2.1 S2.2.2.1 (by omega) fun μ3 e3 m3 s3 => oV ?_
        have z3 : Lz zLM μ3 = Lz zLM μ := (zEm_LM e3).trans (e2.trans (zPt_LM e1))
        have H3 := EL_pre H z3
        rw [emL_app, List.length_append, ← Nat.add_assoc] at H3
        exact ih x.2 _ _ μ3 (by omega) ⟨RK_em e3 S2.1, m3, s3, (rdI1 e3 rfl).trans S2.2.2.2⟩ (by show st + x.1.length + 1 ≤ x.2; omega) H3
theorem m_smL (S : SL f n a u st k μ) (h4 : st < a) (H : EL Φ μ f n u st k (smF f n a)) : Spec g i_Mo_readSum 0 [.ref 140] μ Φ := by
  have n4 := S.1.1.1
  have ha := S.1.2.1
  refine spi o_Mo_readSum rfl (v_Mo_readSum_0 (m_par S (by omega) fun μ1 e1 => ?_))
  unfold smF at H
  cases hr : ptP f n a with
  | inr b =>
    intro hb hu
    rw [hr] at H
    exact oI ⟨fun q => absurd rfl q, fun _ => z01 (H μ1 e1 hb hu)⟩
  | inl x =>
    intro S1
    rw [hr] at H
    obtain ⟨p1, -, -⟩ := ptP_g ha x hr
    exact oI ⟨fun _ => m_sum9 (n + 1) x.2 _ _ μ1 (by omega) S1 (by omega) (EL_pre H e1), fun q => absurd q (by decide)⟩
end LWM
