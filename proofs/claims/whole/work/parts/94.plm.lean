/-! the reference's plans -/
theorem nI_or (x y : Nat) : nI (x ||| y) = nI x ||| nI y := b_ext fun i hi => by rw [b_or, b_nI hi, b_nI hi, b_nI hi, Nat.testBit_or]
theorem nI_1024 {u k : Nat} (hu : u < 64) (hk : k < 1024) : (nI u <<< ((10 : Int32) &&& 31)) ||| nI k = nI (1024 * u + k) := by
  rw [pk_shlN _ 10 (by decide) (by omega), ← nI_or]
  congr 1
  have := Nat.shiftLeft_add_eq_or_of_lt (i := 10) (b := k) (by omega) u
  rw [Nat.shiftLeft_eq] at this
  omega
def frP (w : WD) (t : Nat) : Int32 := msk 6 (fun q => !lef w t q)
def knP (w : WD) (t : Nat) : Int32 := msk (pe w) (fun p => kno w p t)
def VtP (w : WD) (t u k : Nat) : Nat := FdP w t (nI u) (nI k &&& prs w)
def TBD (w : WD) (t : Nat) (μ : Mem) (u0 k0 : Nat) : Prop := ∀ u k, u < 64 → k < 2 ^ pe w → subm (frP w t) (nI u) = true → subm (knP w t) (nI k) = true → (u0 < u ∨ u = u0 ∧ k0 ≤ k) → mI μ 152 (1024 * u + k) = nI (VtP w t u k)
theorem two_pe : ∀ p, p ≤ 10 → ((1 : Int32) <<< (nI p &&& 31)) - 1 = nI (2 ^ p) + -1 := by decide +kernel
theorem two_le {p : Nat} (h : p ≤ 10) : 2 ^ p ≤ 1024 := Nat.pow_le_pow_right (by decide) h
section PLMP
variable {w : WD} {t : Nat}
theorem Can_cg : ∀ {n : Nat} {U U' K : Int32}, (∀ q, q < 6 → lef w t q = true → bt U q = bt U' q) → Can w t n U K → Can w t n U' K := by
  intro n
  induction n with
  | zero => intro U U' K _ h; exact h
  | succ n ih =>
    intro U U' K hu h
    rcases h with h | ⟨p, q, h1, h2, h3, h4⟩
    · exact Or.inl h
    · have hb := okS_b.mp h3
      refine Or.inr ⟨p, q, h1, h2, okS_b.mpr ⟨hb.1, hb.2.1, by rw [← hu q h2 hb.2.1]; exact hb.2.2⟩, ih (fun i hi hl => ?_) h4⟩
      rw [b_nU (by omega) (by omega), b_nU (by omega) (by omega), hu i hi hl]
theorem FdP_cg {U U' K : Int32} (h : ∀ q, q < 6 → lef w t q = true → bt U q = bt U' q) : FdP w t U K = FdP w t U' K := by
  have a := D_99 (w := w) (t := t) (U := U) (K := K)
  have b := D_99 (w := w) (t := t) (U := U') (K := K)
  have e : ∀ n, n ≤ 98 → (FdP w t U K ≤ n ↔ FdP w t U' K ≤ n) := fun n hn => (D_can hn).trans (Iff.trans ⟨Can_cg h, Can_cg fun q h1 h2 => (h q h1 h2).symm⟩ (D_can hn).symm)
  by_cases h1 : FdP w t U K ≤ 98
  · have h2 := (e _ h1).mp (Nat.le_refl _)
    have h3 := (e _ (show FdP w t U' K ≤ 98 by omega)).mpr (Nat.le_refl _)
    omega
  · by_cases h2 : FdP w t U' K ≤ 98
    · have := (e _ h2).mpr (Nat.le_refl _); omega
    · omega
theorem fr_b {q : Nat} (hq : q < 6) : bt (frP w t) q = !lef w t q := by
  unfold frP; rw [b_msk (by omega) (by omega)]; simp [hq]
theorem fr_lef {u q : Nat} (hs : subm (frP w t) (nI u) = true) (hq : q < 6) (hb : bt (nI u) q = false) : lef w t q = true := by
  cases h : lef w t q with
  | true => rfl
  | false =>
    have := subm_b.mp hs q (by omega) (by rw [fr_b hq, h]; rfl)
    rw [hb] at this; cases this
theorem ok_R {u k p q : Nat} (p10 : pe w ≤ 10) (hs : subm (frP w t) (nI u) = true) (hp : p < pe w) (hq : q < 6) : (bt (nI k) p && (her w p && !bt (nI u) q)) = okS w t (nI u) (nI k &&& prs w) p q := by
  unfold okS
  have e1 : bt (prs w) p = her w p := by
    unfold prs; rw [b_msk (by omega) (by omega)]; simp [hp]
  rw [b_and, e1]
  cases hb : bt (nI u) q with
  | true => simp
  | false => rw [fr_lef hs hq hb]; cases bt (nI k) p <;> simp
theorem nx_R {k p q : Nat} (p10 : pe w ≤ 10) (hs : subm (knP w t) (nI k) = true) : (nI k ||| rgt w t p q) &&& prs w = nK w t (nI k &&& prs w) p q := by
  apply b_ext; intro i hi
  have hk := subm_b.mp hs i hi
  have ht := tkm_b (w := w) (t := t) p10 (p := p) (q := q) hi
  have er : bt (rgt w t p q) i = (bt (tkm w p t q) i && !bt (knP w t) i) := by
    unfold rgt tkm knP
    rw [b_and, b_not hi, msk_cong (h := hrfT w p t q) fun r _ => hrf_T]
  unfold nK
  rw [b_and, b_or, b_or, b_and, er]
  cases h1 : bt (tkm w p t q) i with
  | false => simp
  | true =>
    rw [ht h1]
    cases h2 : bt (knP w t) i with
    | false => simp
    | true => rw [hk h2]; simp
end PLMP
section PLM
variable {g : Gl} {Φ : Out → Mem → Prop} {μ : Mem} {w : WD} {t : Nat}
theorem m_pAt {u k : Nat} (hu : u < 64) (hk : k < 1024) (H : Φ (.inl (some (.int (nI (1024 * u + k))))) μ) : Spec g i_Mo_planAt 0 [.int (nI u), .int (nI k)] μ Φ := by
  refine spi o_Mo_planAt rfl (v_Mo_planAt_0 ?_)
  rw [nI_1024 hu hk]; exact H
theorem m_sdO (m : MW μ w) (ht : t < 10) (H : Φ (.inl (some (.int (frP w t)))) μ) : Spec g i_Mo_saidOf 0 [.ref 140, .int (nI t)] μ Φ := by
  have w6 := (wf_wo m.2.1 ht).2.1
  refine spi o_Mo_saidOf rfl (v_Mo_saidOf_0 (zup (P := fun q => WW g i_Mo_saidOf 0 Φ 0 0 4 [(0, .ref 140), (1, .int (nI t)), (2, .int (msk q (fun q => !lef w t q))), (3, .int (nI q))] [] μ) 6 ?_ ?_))
  · exact v_Mo_saidOf_4 ⟨fun _ => H, fun h => absurd (nI_le (a := 6) (b := 6) (by decide) (by decide)) h⟩
  · intro q hq ih
    have y : lef w t q = false → WW g i_Mo_saidOf 0 Φ 0 0 4 [(0, .ref 140), (1, .int (nI t)), (2, .int (msk q (fun q => !lef w t q) ||| ((1 : Int32) <<< (nI q &&& 31)))), (3, .int (nI q + 1))] [] μ := fun h => by
      rw [msk_t (f := fun q => !lef w t q) (by rw [h]; rfl), nI_succ] at ih; exact ih
    refine v_Mo_saidOf_4 ⟨fun h => absurd h (nI_ge (b := 6) hq (by decide)), fun _ => m_wo m ht (oI ⟨fun h => y ?_, fun h => m_sd m (by omega) (oI ⟨fun h2 => ?_, fun h2 => y ?_⟩)⟩)⟩
    · rw [nI_leI (by omega) (by omega)] at h
      unfold lef; rw [decide_eq_false (by omega)]; rfl
    · rw [nI_leI (by omega) (by omega)] at h
      have : lef w t q = true := by unfold lef; rw [decide_eq_true (by omega), b2i_0.mp h2]; rfl
      rw [msk_f (f := fun q => !lef w t q) (by rw [this]; rfl), nI_succ] at ih; exact ih
    · unfold lef; rw [b2i_n0.mp h2]; simp
theorem m_cst (m : MW μ w) {p q : Nat} {U K : Int32} (hp : p < 10) (hq : q < 6) (H : Φ (.inl (some (.int (b2i (bt K p && (her w p && !bt U q)))))) μ) : Spec g i_Mo_canStep 0 [.ref 140, .int U, .int K, .int (nI p), .int (nI q)] μ Φ := by
  refine spi o_Mo_canStep rfl (v_Mo_canStep_0 (m_has (by omega) (oI ⟨fun h => ?_, fun h => m_her m hp (oI ⟨fun h2 => ?_, fun h2 => m_has (by omega) (oI ⟨fun h3 => ?_, fun h3 => ?_⟩)⟩)⟩)))
  · rw [b2i_0.mp h] at H; exact z01 H
  · rw [b2i_n0.mp h, b2i_0.mp h2] at H; exact z01 H
  · rw [b2i_n0.mp h, b2i_n0.mp h2, b2i_n0.mp h3] at H; exact z01 H
  · rw [b2i_n0.mp h, b2i_n0.mp h2, b2i_0.mp h3] at H; exact z11 H
def RGT (w : WD) (t : Nat) (μ : Mem) : Prop := ∀ p, p < pe w → ∀ q, q < wo w t → mI μ 151 (6 * p + q) = rgt w t p q
/-- a step of the table, where the later ones are worked out -/
theorem m_bst (p10 : pe w ≤ 10) {u k p q u0 k0 : Nat} (hR : RGT w t μ) (hT : TBD w t μ u0 k0) (hu : u < 64) (hk : k < 2 ^ pe w) (hs : subm (frP w t) (nI u) = true) (hs2 : subm (knP w t) (nI k) = true) (hp : p < pe w) (hq : q < 6) (hb : bt (nI u) q = false) (h0 : u0 ≤ u)
    (H : Φ (.inl (some (.int (nI (1 + FdP w t (nU (nI u) q) (nK w t (nI k &&& prs w) p q)))))) μ) : Spec g i_Mo_byStep 0 [.ref 140, .int (nI u), .int (nI k), .int (nI p), .int (nI q)] μ Φ := by
  have h1k := two_le p10
  have hl := fr_lef hs hq hb
  refine spi o_Mo_byStep rfl (v_Mo_byStep_0 (m_ra (oI ⟨vp_in_nI (by omega) (by decide), ?_⟩)))
  rw [nx_nI (by omega), hR p hp q (lef_wo hl)]
  have eU : nI u ||| ((1 : Int32) <<< (nI q &&& 31)) = nI (uq u q) := (uq_nI u q).symm
  have hk2 : num (nI k ||| rgt w t p q) < 2 ^ pe w := num_lt (by omega) fun i h1 h2 => by
    rw [b_or, b_nI_lt hk h1 h2]
    unfold rgt
    rw [b_and, b_msk (by omega) h2, decide_eq_false (by omega)]; simp
  rw [eU, show nI k ||| rgt w t p q = nI (num (nI k ||| rgt w t p q)) from (nI_num _).symm]
  refine m_pAt (uq_lt hu hq) (by omega) (oI ⟨vp_in_nI (by have := uq_lt hu hq; omega) (by decide), ?_⟩)
  rw [nx_nI (by have := uq_lt hu hq; omega), hT _ _ (uq_lt hu hq) hk2 ?_ ?_ (Or.inl (by have := uq_gt hu hq hb; omega))]
  · unfold VtP
    rw [nI_num, nx_R p10 hs2, uq_nI]
    rw [show (1 : Int32) = nI 1 from rfl, nI_add]; exact H
  · rw [uq_nI]
    exact subm_b.mpr fun i hi h => by rw [b_nU (by omega) hi, subm_b.mp hs i hi h]; rfl
  · rw [nI_num]
    exact subm_b.mpr fun i hi h => by rw [b_or, subm_b.mp hs2 i hi h]; rfl
theorem m_lst (p10 : pe w ≤ 10) (m : MW μ w) {u k u0 k0 : Nat} (hR : RGT w t μ) (hT : TBD w t μ u0 k0) (hu : u < 64) (hk : k < 2 ^ pe w) (hs : subm (frP w t) (nI u) = true) (hs2 : subm (knP w t) (nI k) = true) (h0 : u0 ≤ u)
    (H : Φ (.inl (some (.int (nI (lsP (okS w t (nI u) (nI k &&& prs w)) (fun p q => 1 + FdP w t (nU (nI u) q) (nK w t (nI k &&& prs w) p q)) (pe w)))))) μ) : Spec g i_Mo_leastStep 0 [.ref 140, .int (nI u), .int (nI k)] μ Φ := by
  refine spi o_Mo_leastStep rfl (v_Mo_leastStep_0 ?_)
  refine zup (P := fun p => WW g i_Mo_leastStep 0 Φ 0 0 6 [(0, .ref 140), (1, .int (nI u)), (2, .int (nI k)), (3, .int (nI (lsP (okS w t (nI u) (nI k &&& prs w)) (fun p q => 1 + FdP w t (nU (nI u) q) (nK w t (nI k &&& prs w) p q)) p))), (4, .int (nI p))] [] μ) (pe w) ?_ ?_
  · exact v_Mo_leastStep_6 (m_pe m (oI ⟨fun _ => H, fun h => absurd (nI_le (Nat.le_refl _) (by omega)) h⟩))
  · intro p hp ih
    have hd : lsP (okS w t (nI u) (nI k &&& prs w)) (fun p q => 1 + FdP w t (nU (nI u) q) (nK w t (nI k &&& prs w) p q)) (p + 1) = lsQ (okS w t (nI u) (nI k &&& prs w) p) (fun q => 1 + FdP w t (nU (nI u) q) (nK w t (nI k &&& prs w) p q)) (lsP (okS w t (nI u) (nI k &&& prs w)) (fun p q => 1 + FdP w t (nU (nI u) q) (nK w t (nI k &&& prs w) p q)) p) 6 := rfl
    rw [hd] at ih
    have h99 := lsP_99 (ok := okS w t (nI u) (nI k &&& prs w)) (v := fun p q => 1 + FdP w t (nU (nI u) q) (nK w t (nI k &&& prs w) p q)) p
    generalize lsP (okS w t (nI u) (nI k &&& prs w)) (fun p q => 1 + FdP w t (nU (nI u) q) (nK w t (nI k &&& prs w) p q)) p = b at *
    refine v_Mo_leastStep_6 (m_pe m (oI ⟨fun h => absurd h (nI_ge hp (by omega)), fun _ => ?_⟩))
    refine zup (P := fun q => WW g i_Mo_leastStep 0 Φ 0 0 18 [(0, .ref 140), (1, .int (nI u)), (2, .int (nI k)), (3, .int (nI (lsQ (okS w t (nI u) (nI k &&& prs w) p) (fun q => 1 + FdP w t (nU (nI u) q) (nK w t (nI k &&& prs w) p q)) b q))), (4, .int (nI p)), (5, .int (nI q))] [] μ) 6 ?_ ?_
    · refine v_Mo_leastStep_18 ⟨fun _ => ?_, fun h => absurd (nI_le (a := 6) (b := 6) (by decide) (by decide)) h⟩
      rw [← nI_succ]; exact ih
    · intro q hq ihq
      have hb99 : lsQ (okS w t (nI u) (nI k &&& prs w) p) (fun q => 1 + FdP w t (nU (nI u) q) (nK w t (nI k &&& prs w) p q)) b q ≤ 99 := (lsQ_le q).mpr (Or.inl h99)
      have hdq : lsQ (okS w t (nI u) (nI k &&& prs w) p) (fun q => 1 + FdP w t (nU (nI u) q) (nK w t (nI k &&& prs w) p q)) b (q + 1) = if okS w t (nI u) (nI k &&& prs w) p q = true then min (lsQ (okS w t (nI u) (nI k &&& prs w) p) (fun q => 1 + FdP w t (nU (nI u) q) (nK w t (nI k &&& prs w) p q)) b q) (1 + FdP w t (nU (nI u) q) (nK w t (nI k &&& prs w) p q)) else lsQ (okS w t (nI u) (nI k &&& prs w) p) (fun q => 1 + FdP w t (nU (nI u) q) (nK w t (nI k &&& prs w) p q)) b q := rfl
      rw [hdq, nI_succ] at ihq
      refine v_Mo_leastStep_18 ⟨fun h => absurd h (nI_ge (b := 6) hq (by decide)), fun _ => m_cst m (by omega) hq (oI ?_)⟩
      rw [ok_R p10 hs hp hq]
      refine ⟨fun h => ?_, fun h => ?_⟩
      · rw [if_neg (by rw [b2i_0.mp h]; decide)] at ihq; exact ihq
      · have ho := b2i_n0.mp h
        rw [if_pos ho] at ihq
        refine m_bst p10 hR hT hu hk hs hs2 hp hq (okS_b.mp ho).2.2 h0 (oI ?_)
        have h99b := D_99 (w := w) (t := t) (U := nU (nI u) q) (K := nK w t (nI k &&& prs w) p q)
        rw [mmin_nI (by omega) (by omega)]; exact ihq
theorem b99 : ∀ n, n ≤ 99 → (mmin 99 (nI n)).toInt8.toInt32.toInt8.toInt32 = nI n := by decide +kernel
theorem b00 : (0 : Int32).toInt8.toInt32.toInt8.toInt32 = nI 0 := by decide
theorem sub_x {x y : Int32} : x &&& (y ^^^ (-1)) = 0 ↔ subm x y = true := by unfold subm; rw [decide_eq_true_eq]
theorem prs_x {k : Nat} : subm (prs w) (nI k) = true ↔ nI k &&& prs w = prs w := by
  rw [subm_b]
  constructor
  · intro h
    apply b_ext; intro i hi
    rw [b_and]
    cases hb : bt (prs w) i with
    | false => simp
    | true => rw [h i hi hb]; rfl
  · intro h i hi hb
    have := congrArg (fun x => bt x i) h
    simp only [b_and, hb, Bool.and_true] at this
    exact this
theorem m_pls (m : MW μ w) (ht : t < th w) (H : ∀ μ', Lz zM μ' = Lz zM μ → RGT w t μ' → TBD w t μ' (num (frP w t)) 0 → Φ (.inl (some (.int (nI (F0P w t))))) μ') : Spec g i_Mo_plans 0 [.ref 140, .int (nI t)] μ Φ := by
  have p10 := (wf_pe m.2.1).2
  have t10 := (wf_th m.2.1).2
  have h1k := two_le p10
  refine spi o_Mo_plans rfl (v_Mo_plans_0 (m_lay m ht fun μ1 e1 hR => oV ?_))
  have m1 := MW_m m e1
  refine m_sdO m1 (by omega) (oI (m_knr m1 (by omega) (oI ?_)))
  have hf : num (frP w t) < 64 := num_lt (n := 6) (by omega) fun i h1 h2 => by unfold frP; rw [b_msk (by omega) h2, decide_eq_false (by omega)]; rfl
  have hkn : num (knP w t) < 2 ^ pe w := num_lt (by omega) fun i h1 h2 => by unfold knP; rw [b_msk (by omega) h2, decide_eq_false (by omega)]; rfl
  have zz : ∀ {μ2 : Mem}, Lz zM μ2 = Lz zM μ1 → MW μ2 w := fun e => MW_m m1 e
  have eF0 : VtP w t (num (frP w t)) (num (knP w t)) = F0P w t := by
    unfold VtP F0P
    rw [nI_num, nI_num]
    exact FdP_cg fun q hq hl => by rw [fr_b hq, hl, b_0]; rfl
  have key : ∀ s, s ≤ 64 → ∀ μ', Lz zM μ' = Lz zM μ1 → mI μ' 151 = mI μ1 151 → TBD w t μ' s 0 → WW g i_Mo_plans 0 Φ 0 0 21 [(0, .ref 140), (2, .int (frP w t)), (3, .int (knP w t)), (4, .int (nI s + -1))] [] μ' := by
    intro s
    induction s with
    | zero =>
      intro _ μ' e h151 hT
      refine v_Mo_plans_21 ⟨fun _ => ?_, fun q => absurd (show nI 0 + -1 < frP w t from ?_) q⟩
      · rw [← nI_num (frP w t), ← nI_num (knP w t)]
        refine m_pAt hf (by omega) (oI ⟨vp_in_nI (by omega) (by decide), ?_⟩)
        rw [nx_nI (by omega), hT _ _ hf hkn (by rw [nI_num]; exact subm_b.mpr fun _ _ h => h) (by rw [nI_num]; exact subm_b.mpr fun _ _ h => h) (by omega), eF0]
        exact H μ' (e.trans e1) (fun p hp q hq => by rw [h151]; exact hR p hp q hq) (fun u k hu hk a b c => hT u k hu hk a b (by omega))
      · rw [← nI_num (frP w t)]
        exact Int32.lt_of_lt_of_le (by decide) (nI_pos' (by omega))
    | succ s ih =>
      intro hs μ' e h151 hT
      have R' : ∀ {μ2 : Mem}, mI μ2 151 = mI μ1 151 → RGT w t μ2 := fun h p hp q hq => by rw [h]; exact hR p hp q hq
      rw [nI_back]
      refine v_Mo_plans_21 ⟨fun q => ?_, fun q => m_pe (zz e) (oI ?_)⟩
      · have q : nI s < nI (num (frP w t)) := by rw [nI_num]; exact q
        rw [nI_ltI (by omega) (by omega)] at q
        rw [← nI_num (frP w t), ← nI_num (knP w t)]
        refine m_pAt hf (by omega) (oI ⟨vp_in_nI (by omega) (by decide), ?_⟩)
        rw [nx_nI (by omega), hT _ _ hf hkn (by rw [nI_num]; exact subm_b.mpr fun _ _ h => h) (by rw [nI_num]; exact subm_b.mpr fun _ _ h => h) (by omega), eF0]
        exact H μ' (e.trans e1) (R' h151) (fun u k hu hk a b c => hT u k hu hk a b (by omega))
      · rw [two_pe _ p10]
        have key2 : ∀ j, j ≤ 2 ^ pe w → ∀ μ', Lz zM μ' = Lz zM μ1 → mI μ' 151 = mI μ1 151 → TBD w t μ' s j → WW g i_Mo_plans 0 Φ 0 0 37 [(0, .ref 140), (2, .int (frP w t)), (3, .int (knP w t)), (4, .int (nI s)), (5, .int (nI j + -1))] [] μ' := by
          intro j
          induction j with
          | zero =>
            intro _ μ' e h151 hT
            refine v_Mo_plans_37 ⟨fun _ => ih (by omega) μ' e h151 hT, fun q => absurd (show nI 0 + -1 < knP w t from ?_) q⟩
            rw [← nI_num (knP w t)]
            exact Int32.lt_of_lt_of_le (by decide) (nI_pos' (by omega))
          | succ j ihj =>
            intro hj μ' e h151 hT
            rw [nI_back]
            have skip : (subm (frP w t) (nI s) = true → subm (knP w t) (nI j) = true → False) → WW g i_Mo_plans 0 Φ 0 0 37 [(0, .ref 140), (2, .int (frP w t)), (3, .int (knP w t)), (4, .int (nI s)), (5, .int (nI j + -1))] [] μ' := fun hno => by
              refine ihj (by omega) μ' e h151 fun u k hu hk a b c => ?_
              by_cases q : u = s ∧ k = j
              · rw [q.1] at a; rw [q.2] at b; exact (hno a b).elim
              · exact hT u k hu hk a b (by omega)
            refine v_Mo_plans_37 ⟨fun q => ?_, fun _ => ⟨fun q => skip fun a _ => q (sub_x.mpr a), fun q => ⟨fun q2 => ?_, fun q2 => skip fun _ b => q2 (sub_x.mpr b)⟩⟩⟩
            · have q : nI j < nI (num (knP w t)) := by rw [nI_num]; exact q
              rw [nI_ltI (by omega) (by omega)] at q
              refine ih (by omega) μ' e h151 fun u k hu hk a b c => ?_
              by_cases q3 : u = s ∧ k ≤ j
              · have := num_lt (x := knP w t) (n := 10) (by omega) fun i h1 h2 => by unfold knP; rw [b_msk (by omega) h2, decide_eq_false (by omega)]; rfl
                have hle : num (knP w t) ≤ k := by
                  have := subm_le (s := num (knP w t)) (y := nI k) (by omega) (by rw [nI_num]; exact b)
                  rw [num_nI (by omega)] at this; exact this
                omega
              · exact hT u k hu hk a b (by omega)
            · have hs1 := sub_x.mp q
              have hs2 := sub_x.mp q2
              have hj2 : j < 2 ^ pe w := by omega
              have m' := zz e
              have put : ∀ {x : Int32}, x = nI (VtP w t s j) → WW g i_Mo_plans 0 Φ 0 0 37 [(0, .ref 140), (2, .int (frP w t)), (3, .int (knP w t)), (4, .int (nI s)), (5, .int (nI j + -1))] [] (sI μ' 152 (nx (nI (1024 * s + j))) x) := fun hx => by
                rw [nx_nI (by omega)]
                refine ihj (by omega) _ ((Lz_I rfl).trans e) (by rw [rI_I, if_neg (by decide)]; exact h151) fun u k hu hk a b c => ?_
                rw [rI_I, if_pos rfl]
                by_cases q : u = s ∧ k = j
                · rw [q.1, q.2, upd_s]; exact hx
                · rw [upd_n (by omega)]; exact hT u k hu hk a b (by omega)
              refine m_here m' (oI ⟨fun hn => m_pAt (by omega) (by omega) (oI ⟨fun _ => ?_, fun h => absurd rfl h⟩), fun hy => m_pAt (by omega) (by omega) (oI ⟨fun h => absurd h (by decide), fun _ => ⟨vp_in_nI (by omega) (by decide), put ?_⟩⟩)⟩)
              · have hne : ¬ nI j &&& prs w = prs w := fun h => hn (sub_x.mpr (prs_x.mpr h))
                refine m_lst p10 m' (R' h151) hT (by omega) hj2 hs1 hs2 (Nat.le_refl _) (oI ⟨vp_in_nI (by omega) (by decide), put ?_⟩)
                rw [b99 _ (lsP_99 _)]
                unfold VtP
                rw [D_st hne]
              · rw [b00]
                unfold VtP
                rw [D_all (prs_x.mp (sub_x.mp hy))]
        exact key2 (2 ^ pe w) (Nat.le_refl _) μ' e h151 fun u k hu hk a b c => hT u k hu hk a b (by omega)
  exact key 64 (Nat.le_refl _) μ1 rfl rfl fun u k hu hk a b c => by omega
theorem m_fst (m : MW μ w) (ht : t < th w) (hR : RGT w t μ) (hT : TBD w t μ (num (frP w t)) 0) (H : Φ (.inl (some (.int (ov (pfs w t))))) μ) : Spec g i_Mo_firstStep 0 [.ref 140, .int (nI t)] μ Φ := by
  have p10 := (wf_pe m.2.1).2
  have t10 := (wf_th m.2.1).2
  have h1k := two_le p10
  have hf : num (frP w t) < 64 := num_lt (n := 6) (by omega) fun i h1 h2 => by unfold frP; rw [b_msk (by omega) h2, decide_eq_false (by omega)]; rfl
  have hkn : num (knP w t) < 2 ^ pe w := num_lt (by omega) fun i h1 h2 => by unfold knP; rw [b_msk (by omega) h2, decide_eq_false (by omega)]; rfl
  have s1 : subm (frP w t) (nI (num (frP w t))) = true := by rw [nI_num]; exact subm_b.mpr fun _ _ h => h
  have s2 : subm (knP w t) (nI (num (knP w t))) = true := by rw [nI_num]; exact subm_b.mpr fun _ _ h => h
  have eF0 : VtP w t (num (frP w t)) (num (knP w t)) = F0P w t := by
    unfold VtP F0P
    rw [nI_num, nI_num]
    exact FdP_cg fun q hq hl => by rw [fr_b hq, hl, b_0]; rfl
  refine spi o_Mo_firstStep rfl (v_Mo_firstStep_0 (m_sdO m (by omega) (oI (m_knr m (by omega) (oI ?_)))))
  show Spec g i_Mo_planAt 0 [.int (frP w t), .int (knP w t)] μ (onI (fun r6 μ5 => vp_in r6 65536 ∧ WW g i_Mo_firstStep 0 Φ 0 0 27 [(0, .ref 140), (2, .int (frP w t)), (3, .int (knP w t)), (4, .int (mI μ5 152 (nx r6))), (5, .int 0)] [] μ5) _)
  have e1 := nI_num (frP w t)
  have e2 := nI_num (knP w t)
  generalize num (frP w t) = u at *
  generalize num (knP w t) = k at *
  rw [← e1, ← e2]
  refine m_pAt hf (by omega) (oI ⟨vp_in_nI (by omega) (by decide), ?_⟩)
  rw [nx_nI (by omega), hT u k hf hkn s1 s2 (by omega), eF0]
  have ek : nI k &&& prs w = k0P w t := by rw [e2]; rfl
  have okk : ∀ p q, okS w t (nI u) (k0P w t) p q = true ↔ (q < 6 → okS w t 0 (k0P w t) p q = true) ∧ okS w t (nI u) (k0P w t) p q = true := fun p q => ⟨fun h => ⟨fun hq => okS_b.mpr ⟨(okS_b.mp h).1, (okS_b.mp h).2.1, b_0 q⟩, h⟩, fun h => h.2⟩
  have oke : ∀ p q, q < 6 → okS w t (nI u) (k0P w t) p q = okS w t 0 (k0P w t) p q := fun p q hq => by
    unfold okS
    rw [b_0, e1, fr_b hq]
    cases lef w t q <;> simp
  have fde : ∀ p q, q < 6 → FdP w t (nU (nI u) q) (nK w t (k0P w t) p q) = FdP w t (nU 0 q) (nK w t (k0P w t) p q) := fun p q hq => FdP_cg fun i hi hl => by
    rw [b_nU (by omega) (by omega), b_nU (by omega) (by omega), b_0, e1, fr_b hi, hl]; rfl
  have gno : ∀ p q, q < 6 → okS w t 0 (k0P w t) p q = false → gdP w t (6 * p + q) = false := fun p q hq ho => by
    unfold gdP
    rw [show (6 * p + q) / 6 = p by omega, show (6 * p + q) % 6 = q by omega, ho]; rfl
  have F99 : F0P w t ≤ 99 := D_99
  refine zup (P := fun p => (∀ i, i < 6 * p → gdP w t i = false) → WW g i_Mo_firstStep 0 Φ 0 0 27 [(0, .ref 140), (2, .int (nI u)), (3, .int (nI k)), (4, .int (nI (F0P w t))), (5, .int (nI p))] [] μ) (pe w) ?_ ?_ (fun i h => absurd h (Nat.not_lt_zero _))
  · intro hno
    have all : ∀ i, i < 60 → gdP w t i = false := fun i hi => by
      by_cases q : i < 6 * pe w
      · exact hno i q
      · have := gno (i / 6) (i % 6) (by omega) (by
          unfold okS k0P
          rw [b_and, b_msk (by omega) (by omega), decide_eq_false (by omega)]; rfl)
        rw [show 6 * (i / 6) + i % 6 = i by omega] at this; exact this
    unfold pfs at H
    rw [lo_none all, if_neg (by omega)] at H
    exact v_Mo_firstStep_27 (m_pe m (oI ⟨fun _ => H, fun h => absurd (nI_le (Nat.le_refl _) (by omega)) h⟩))
  · intro p hp ih hno
    refine v_Mo_firstStep_27 (m_pe m (oI ⟨fun h => absurd h (nI_ge hp (by omega)), fun _ => ?_⟩))
    refine zup (P := fun q => (∀ i, i < 6 * p + q → gdP w t i = false) → WW g i_Mo_firstStep 0 Φ 0 0 39 [(0, .ref 140), (2, .int (nI u)), (3, .int (nI k)), (4, .int (nI (F0P w t))), (5, .int (nI p)), (6, .int (nI q))] [] μ) 6 ?_ ?_ hno
    · intro hn
      refine v_Mo_firstStep_39 ⟨fun _ => ?_, fun h => absurd (nI_le (a := 6) (b := 6) (by decide) (by decide)) h⟩
      rw [← nI_succ]; exact ih fun i hi => hn i (by omega)
    · intro q hq ihq hn
      have skip : gdP w t (6 * p + q) = false → WW g i_Mo_firstStep 0 Φ 0 0 39 [(0, .ref 140), (2, .int (nI u)), (3, .int (nI k)), (4, .int (nI (F0P w t))), (5, .int (nI p)), (6, .int (nI q + 1))] [] μ := fun hg => by
        rw [← nI_succ]
        refine ihq fun i hi => ?_
        by_cases e : i = 6 * p + q
        · rw [e]; exact hg
        · exact hn i (by omega)
      refine v_Mo_firstStep_39 ⟨fun h => absurd h (nI_ge (b := 6) hq (by decide)), fun _ => m_cst m (by omega) hq (oI ?_)⟩
      rw [ok_R p10 s1 hp hq, ek]
      refine ⟨fun h => skip (gno p q hq (by rw [← oke p q hq]; exact b2i_0.mp h)), fun h => ?_⟩
      have ho := b2i_n0.mp h
      refine m_bst p10 hR hT hf hkn s1 s2 hp hq (okS_b.mp ho).2.2 (Nat.le_refl _) (oI ?_)
      rw [ek, fde p q hq]
      have h99 := D_99 (w := w) (t := t) (U := nU 0 q) (K := nK w t (k0P w t) p q)
      have hg : gdP w t (6 * p + q) = decide (FdP w t (nU 0 q) (nK w t (k0P w t) p q) + 1 = F0P w t) := by
        unfold gdP
        rw [show (6 * p + q) / 6 = p by omega, show (6 * p + q) % 6 = q by omega, ← oke p q hq, ho]; rfl
      refine ⟨fun hne => skip ?_, fun he => ?_⟩
      · rw [hg]; exact decide_eq_false fun e => hne (by rw [← e, Nat.add_comm])
      · have he := nI_inj (by omega) (by omega) he
        have hgt : gdP w t (6 * p + q) = true := by rw [hg]; exact decide_eq_true (by omega)
        unfold pfs at H
        rw [lo_eq (show 6 * p + q < 60 by omega) hgt hn, if_pos (by omega), show (6 * p + q) / 6 = p by omega, show (6 * p + q) % 6 = q by omega] at H
        rw [show (10 : Int32) = nI 10 from rfl, pk_mul, nI_add]; exact H
theorem M_plan (m : MW μ w) {a b : Int32} (H : RM Φ μ w (q_plan w a b)) : Spec g i_Mo_plan 0 [.ref 140, .int a, .int b] μ Φ := by
  have t10 := (wf_th m.2.1).2
  have m0 : MW (sI μ 140 0 0) w := MW_0 m
  unfold q_plan at H
  refine spi o_Mo_plan rfl (v_Mo_plan_0 ?_)
  rcases ix_cs (n := th w) (by omega) a with ⟨et, ht⟩ | ⟨t, ht, rfl, et⟩
  · rw [gdx_n et] at H
    exact m_nT1 m0 ht (oI (thr1 (oI ⟨fun q => absurd q (by decide), fun _ => RM_er H (by decide) m⟩)))
  rw [gdx_s et] at H
  have F99 : F0P w t ≤ 99 := D_99
  refine m_nT0 m0 ht (oI (thr0 (oI ⟨fun _ => m_pls m0 ht fun μ1 e1 hR hT => oI ?_, fun q => absurd rfl q⟩)))
  have m1 := MW_m m0 e1
  have e1w : Lz zW μ1 = Lz zW (sI μ 140 0 0) := Lz_up (fun k j h => by unfold zW; rw [h]; simp) e1
  refine ⟨fun h => ?_, fun h => ?_⟩
  · have hlt : F0P w t < 99 := by rw [show (99 : Int32) = nI 99 from rfl, nI_ltI (by omega) (by omega)] at h; exact h
    rw [if_neg (by omega)] at H
    refine ⟨fun hb => ?_, fun hb => ?_⟩
    · rw [if_neg hb] at H
      refine ⟨fun h0 => ?_, fun h0 => ?_⟩
      · rw [if_neg (fun e => h0 (by rw [e]; rfl))] at H
        exact m_fst m1 ht hR hT (oI (RM_ok H e1w m1))
      · rw [if_pos (nI_inj (b := 0) (by omega) (by omega) h0)] at H
        exact RM_ok H e1w m1
    · rw [if_pos hb] at H
      exact RM_ok H e1w m1
  · have : F0P w t = 99 := by rw [show (99 : Int32) = nI 99 from rfl, nI_ltI (by omega) (by omega)] at h; omega
    rw [if_pos this] at H
    exact RM_ok H e1w m1
end PLM
