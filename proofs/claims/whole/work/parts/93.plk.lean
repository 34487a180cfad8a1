/-! the class's plans: only what leads there; the first saying -/
def TrP (w : WD) (t n : Nat) (M : Nat → Nat → Bool) (u k : Nat) : Bool := M u k && decide (FuP w t u k + cu u = n)
def KIP (w : WD) (t n : Nat) (M : Nat → Nat → Bool) (s k : Nat) (M' : Nat → Nat → Bool) : Prop := ∀ u k', u < 64 → k' < 1024 → M' u k' = if s < u ∨ u = s ∧ k' < k then TrP w t n M u k' else M u k'
def KRP (w : WD) (t n : Nat) (M : Nat → Nat → Bool) (s : Nat) (M' : Nat → Nat → Bool) : Prop := ∀ u k', u < 64 → k' < 1024 → M' u k' = if s ≤ u then TrP w t n M u k' else M u k'
def gdP (w : WD) (t i : Nat) : Bool := okS w t 0 (k0P w t) (i / 6) (i % 6) && decide (FdP w t (nU 0 (i % 6)) (nK w t (k0P w t) (i / 6) (i % 6)) + 1 = F0P w t)
def pfs (w : WD) (t : Nat) : Option Nat := if lo (gdP w t) 60 < 60 then some (10 * (lo (gdP w t) 60 / 6) + lo (gdP w t) 60 % 6) else none
def q_plan (w : WD) (a b : Int32) : Nat × Int32 := gdx (th w) a 1 fun t => (0, if F0P w t = 99 then -1 else if b = 0 then nI (F0P w t) else if F0P w t = 0 then -1 else ov (pfs w t))
section PLK
variable {g : Gl} {Φ : Out → Mem → Prop} {μ : Mem} {w : WD} {t n : Nat} {M : Nat → Nat → Bool}
theorem KIP_step {s k : Nat} {M' M2 : Nat → Nat → Bool} (h : KIP w t n M s k M') (h2 : ∀ u k', u < 64 → k' < 1024 → M2 u k' = (M' u k' && !decide (u = s ∧ k' = k))) (hf : ¬ FuP w t s k + cu s = n) : KIP w t n M s (k + 1) M2 := by
  intro u k' hu hk'
  rw [h2 u k' hu hk', h u k' hu hk']
  by_cases e : u = s ∧ k' = k
  · rw [if_neg (by omega), if_pos (by omega), decide_eq_true e]
    unfold TrP
    rw [e.1, e.2, decide_eq_false hf]; simp
  · rw [decide_eq_false e]
    by_cases q : s < u ∨ u = s ∧ k' < k
    · rw [if_pos q, if_pos (by omega)]; simp
    · rw [if_neg q, if_neg (by omega)]; simp
theorem KIP_keep {s k k2 : Nat} {M' : Nat → Nat → Bool} (h : KIP w t n M s k M') (hk : k ≤ k2) (hf : ∀ k', k ≤ k' → k' < k2 → k' < 1024 → TrP w t n M s k' = M s k') : KIP w t n M s k2 M' := by
  intro u k' hu hk'
  rw [h u k' hu hk']
  by_cases q : s < u ∨ u = s ∧ k' < k
  · rw [if_pos q, if_pos (by omega)]
  · rw [if_neg q]
    by_cases q2 : s < u ∨ u = s ∧ k' < k2
    · rw [if_pos q2]
      have e : u = s := by omega
      rw [e]; exact (hf k' (by omega) (by omega) hk').symm
    · rw [if_neg q2]
theorem KIP_end {s k : Nat} {M' : Nat → Nat → Bool} (h : KIP w t n M s k M') (hS : SndP w t M) (hk : num (prs w) < k) : KRP w t n M s M' := by
  intro u k' hu hk'
  rw [h u k' hu hk']
  by_cases q : s < u ∨ u = s ∧ k' < k
  · rw [if_pos q, if_pos (by omega)]
  · rw [if_neg q]
    by_cases q2 : s ≤ u
    · rw [if_pos q2]
      unfold TrP
      cases hm : M u k' with
      | false => rfl
      | true => have := subm_le (by omega) (hS u k' hu hk' hm).1; omega
    · rw [if_neg q2]
theorem KIP_0 {s : Nat} {M' : Nat → Nat → Bool} (h : KRP w t n M (s + 1) M') : KIP w t n M s 0 M' := by
  intro u k' hu hk'
  rw [h u k' hu hk']
  by_cases q : s + 1 ≤ u
  · rw [if_pos q, if_pos (by omega)]
  · rw [if_neg q, if_neg (by omega)]
theorem c_kol15 (p10 : pe w ≤ 10) {s : Nat} (hs : s < 64) {μ0 : Mem} (hP0 : PLN w t μ0) (hn0 : n = F0P w t) (h98 : n ≤ 98) (hS : SndP w t M) (hC : ∀ u k, u < 64 → k < 1024 → M u k = true → cu u < n → CmpP w t u k M)
    (HX : ∀ μ', Lz zP67 μ' = Lz zP67 μ0 → KRP w t n M s (mkd μ') → WW g i_Pl_keepOnlyWhatLeadsThere 0 Φ 0 0 3 [(0, .ref 65), (1, .int (nI n)), (2, .int (nI s + -1))] [] μ') :
    ∀ d k, 1088 ≤ k + d → k ≤ 1088 → ∀ μ', Lz zP67 μ' = Lz zP67 μ0 → KIP w t n M s k (mkd μ') → WW g i_Pl_keepOnlyWhatLeadsThere 0 Φ 0 0 15 [(0, .ref 65), (1, .int (nI n)), (2, .int (nI s)), (3, .int (nI (cu s))), (4, .int (nI k))] [] μ' := by
  have hpr := num_prs p10
  have c6 := cu_6 s
  intro d
  induction d with
  | zero =>
    intro k hd hk μ' e h
    refine v_Pl_keepOnlyWhatLeadsThere_15 ⟨fun _ => HX μ' e (KIP_end h hS (by omega)), fun q => absurd ?_ q⟩
    rw [(PLN_67 e hP0).2.1, ← nI_num (prs w), nI_ltI (by omega) (by omega)]; omega
  | succ d ih =>
    intro k hd hk μ' e h
    have hPn := PLN_67 e hP0
    refine v_Pl_keepOnlyWhatLeadsThere_15 ⟨fun q => HX μ' e (KIP_end h hS ?_), fun q => ?_⟩
    · rw [hPn.2.1, ← nI_num (prs w), nI_ltI (by omega) (by omega)] at q; exact q
    · have hkp : k ≤ num (prs w) := by
        rw [hPn.2.1, ← nI_num (prs w), nI_ltI (by omega) (by omega)] at q; omega
      have hk1 : k < 1024 := by omega
      have here : ∀ k', k ≤ k' → k' < 1024 → mkd μ' s k' = M s k' := fun k' h1 h2 => by rw [h s k' hs h2, if_neg (by omega)]
      have go1 : ∀ μ2, Lz zP67 μ2 = Lz zP67 μ0 → KIP w t n M s (k + 1) (mkd μ2) → WW g i_Pl_keepOnlyWhatLeadsThere 0 Φ 0 0 15 [(0, .ref 65), (1, .int (nI n)), (2, .int (nI s)), (3, .int (nI (cu s))), (4, .int (nI k + 1))] [] μ2 := fun μ2 e2 h2 => by
        rw [← nI_succ]; exact ih (k + 1) (by omega) (by omega) μ2 e2 h2
      have un : ¬ FuP w t s k + cu s = n → ∀ {x : Nat → Mem → Prop}, Spec g i_Pl_unmark 0 [.ref 65, .int (nI s), .int (nI k)] μ' (onV (fun μ2 => WW g i_Pl_keepOnlyWhatLeadsThere 0 Φ 0 0 15 [(0, .ref 65), (1, .int (nI n)), (2, .int (nI s)), (3, .int (nI (cu s))), (4, .int (nI k + 1))] [] μ2) x) := fun hf x =>
        c_umk hs hk1 fun μ2 e2 hm => oV (go1 μ2 (e2.trans e) (KIP_step h hm hf))
      refine c_isB hs hk1 (oI ⟨fun _ => c_isM hs hk1 (oI ⟨fun hm => ?_, fun hm => ?_⟩), fun q => absurd rfl q⟩) (fun hb => oI ⟨fun q => absurd q (by decide), fun _ => ?_⟩)
      · have hm := b2i_0.mp hm
        refine go1 μ' e (KIP_keep h (by omega) fun k' h1 h2 _ => ?_)
        have : k' = k := by omega
        rw [this]
        unfold TrP
        rw [← here k (Nat.le_refl _) hk1, hm]; rfl
      · have hm := b2i_n0.mp hm
        have hM : M s k = true := by rw [← here k (Nat.le_refl _) hk1]; exact hm
        obtain ⟨b1, b2⟩ := hS s k hs hk1 hM
        rw [← hn0] at b2
        have keep : FuP w t s k + cu s = n → WW g i_Pl_keepOnlyWhatLeadsThere 0 Φ 0 0 15 [(0, .ref 65), (1, .int (nI n)), (2, .int (nI s)), (3, .int (nI (cu s))), (4, .int (nI k + 1))] [] μ' := fun hy => by
          refine go1 μ' e (KIP_keep h (by omega) fun k' h1 h2 _ => ?_)
          have : k' = k := by omega
          rw [this]
          unfold TrP
          rw [decide_eq_true hy, Bool.and_true]
        refine ⟨fun hne => ⟨fun hle => ⟨fun q => absurd rfl q, fun _ => un ?_⟩, fun hlt => ?_⟩, fun heq => ⟨fun hne => ⟨fun q => absurd rfl q, fun _ => un ?_⟩, fun he => ⟨fun _ => keep ?_, fun q => absurd q (by decide)⟩⟩⟩
        · rw [nI_leI (by omega) (by omega)] at hle
          have : cu s ≠ n := fun q => hne (by rw [q])
          omega
        · rw [nI_leI (by omega) (by omega)] at hlt
          refine c_lds p10 hPn hs hk1 b1 fun d2 hd2 => oI ?_
          have iff : d2 = true ↔ FuP w t s k + cu s = n := by
            rw [hd2]
            constructor
            · rintro ⟨p, q, h1, h2, h3, h4⟩
              have hb := (okS_b.mp h3).2.2
              rw [h _ _ (uq_lt hs h2) (kp_lt p10 b1), if_pos (Or.inl (uq_gt hs h2 hb))] at h4
              unfold TrP at h4
              simp only [Bool.and_eq_true, decide_eq_true_eq] at h4
              rw [FuP_nx, cu_uq h2 hb] at h4
              have hl : FuP w t s k ≤ 1 + FdP w t (nU (nI s) q) (nK w t (nI k) p q) := D_le h1 h2 h3
              omega
            · intro hy
              obtain ⟨m, hm2⟩ : ∃ m, FuP w t s k = m + 1 := ⟨FuP w t s k - 1, by omega⟩
              obtain ⟨p, q, h1, h2, h3, h4, h5⟩ := D_pick (n := m) (by omega) hm2
              have hb := (okS_b.mp h3).2.2
              refine ⟨p, q, h1, h2, h3, ?_⟩
              rw [h _ _ (uq_lt hs h2) (kp_lt p10 b1), if_pos (Or.inl (uq_gt hs h2 hb))]
              unfold TrP
              rw [hC s k hs hk1 hM (by omega) p q h1 h2 (usf_b.mpr ⟨h3, h5⟩), FuP_nx, cu_uq h2 hb, h4, decide_eq_true (by omega)]; rfl
          refine ⟨fun hq => ⟨fun q => absurd rfl q, fun _ => un fun hy => ?_⟩, fun hq => ⟨fun _ => keep (iff.mp (b2i_n0.mp hq)), fun q => absurd q (by decide)⟩⟩
          rw [iff.mpr hy] at hq; cases hq
        · have : cu s = n := nI_inj (by omega) (by omega) heq
          intro hy
          exact hne ((D_0 (show FdP w t (nI s) (nI k) = 0 from by unfold FuP at hy; omega)).trans hPn.2.1.symm)
        · have : cu s = n := nI_inj (by omega) (by omega) heq
          have : FuP w t s k = 0 := D_all (he.trans hPn.2.1)
          omega
      · rw [or63 k hk1, ← nI_succ]
        refine ih _ (by omega) (by omega) μ' e (KIP_keep h (by omega) fun k' h1 h2 h3 => ?_)
        have := hb k' (by omega)
        rw [here k' h1 h3] at this
        unfold TrP
        rw [this]; rfl
theorem c_kol (p10 : pe w ≤ 10) {μ0 : Mem} (hP0 : PLN w t μ0) (hn0 : n = F0P w t) (h98 : n ≤ 98) (hS : SndP w t (mkd μ0)) (hC : ∀ u k, u < 64 → k < 1024 → mkd μ0 u k = true → cu u < n → CmpP w t u k (mkd μ0))
    (H : ∀ μ', Lz zP67 μ' = Lz zP67 μ0 → KRP w t n (mkd μ0) 0 (mkd μ') → Φ (.inl none) μ') : Spec g i_Pl_keepOnlyWhatLeadsThere 0 [.ref 65, .int (nI n)] μ0 Φ := by
  refine spi o_Pl_keepOnlyWhatLeadsThere rfl (v_Pl_keepOnlyWhatLeadsThere_0 ?_)
  have key : ∀ s, s ≤ 64 → ∀ μ', Lz zP67 μ' = Lz zP67 μ0 → KRP w t n (mkd μ0) s (mkd μ') → WW g i_Pl_keepOnlyWhatLeadsThere 0 Φ 0 0 3 [(0, .ref 65), (1, .int (nI n)), (2, .int (nI s + -1))] [] μ' := by
    intro s
    induction s with
    | zero =>
      intro _ μ' e h
      exact v_Pl_keepOnlyWhatLeadsThere_3 ⟨fun _ => H μ' e h, fun q => absurd (by decide) q⟩
    | succ s ih =>
      intro hs μ' e h
      rw [nI_back]
      refine v_Pl_keepOnlyWhatLeadsThere_3 ⟨fun q => absurd q (nI_pos (by omega)), fun _ => c_bc (oI ?_)⟩
      rw [cu_bc (by omega)]
      exact c_kol15 p10 (by omega) hP0 hn0 h98 hS hC (fun μ2 e2 h2 => ih (by omega) μ2 e2 h2) 1088 0 (by omega) (by omega) μ' e (KIP_0 h)
  exact key 64 (Nat.le_refl _) μ0 rfl fun u k hu hk => by rw [if_neg (by omega)]
theorem k0_sub : subm (nI (num (k0P w t))) (prs w) = true := by
  rw [nI_num]
  exact subm_b.mpr fun i hi h => by unfold k0P at h; rw [b_and, Bool.and_eq_true] at h; exact h.2
theorem uq0 (q : Nat) : (1 : Int32) <<< (nI q &&& 31) = nI (uq 0 q) := by
  rw [uq_nI]
  unfold nU
  apply b_ext; intro i hi
  rw [b_or, show nI 0 = 0 from rfl, b_0]; rfl
theorem c_fir (c : CI μ w) (ht : t < th w) (H : ∀ μ', Lz zPr μ' = Lz zPr μ → Φ (.inl (some (.int (if F0P w t = 99 then -1 else if F0P w t = 0 then -1 else ov (pfs w t))))) μ') : Spec g i_Pl_firstSaying 0 [.ref 65, .int (nI t)] μ Φ := by
  have p10 := ci_p10 c
  refine spi o_Pl_firstSaying rfl (v_Pl_firstSaying_0 (c_fewS c ht (fun h0 μ1 e1 => oI ⟨fun q => absurd q (by decide), fun _ => ?_⟩) fun hpos μ1 e1 hP hB => oI ?_))
  · have := H μ1 e1
    rw [if_neg (by omega), if_pos h0] at this; exact this
  · by_cases h99 : F0P w t = 99
    · rw [if_pos h99]
      refine ⟨fun q => absurd q (by decide), fun _ => ?_⟩
      have := H μ1 e1
      rw [if_pos h99] at this; exact this
    · rw [if_neg h99] at hB ⊢
      have hle : F0P w t ≤ 99 := D_99
      have H := fun μ' e => H μ' e
      simp only [if_neg h99, if_neg (show ¬ F0P w t = 0 by omega)] at H
      refine ⟨fun _ => c_kol p10 hP rfl (by omega) hB.1 (fun u k hu hk hm hc => (hB.2.2.2 u k hu hk (by omega) hm hc).1) fun μ2 e2 hK => oV ?_, fun q => absurd (show (0 : Int32) < nI (F0P w t) from ?_) q⟩
      · have hP2 := PLN_67 e2 hP
        have e2' : Lz zPr μ2 = Lz zPr μ := ((Lz_up (fun k j h => by
          unfold zP67 at h; unfold zPr
          simp only [Bool.or_eq_true, Bool.and_eq_true, Nat.ble_eq, Nat.beq_eq] at h ⊢
          omega) e2).trans e1)
        have fin := H μ2 e2'
        have hk0 := k0_lt (t := t) p10
        have mark : ∀ p q, p < 10 → q < 6 → okS w t 0 (k0P w t) p q = true → mkd μ2 (uq 0 q) (kp w t (num (k0P w t)) p q) = gdP w t (6 * p + q) := by
          intro p q hp hq ho
          have ho' : okS w t (nI 0) (nI (num (k0P w t))) p q = true := by rw [nI_num]; exact ho
          have hpe := okS_p p10 k0_sub (by omega) ho'
          rw [hK _ _ (uq_lt (by omega) hq) (kp_lt p10 k0_sub), if_pos (Nat.zero_le _)]
          unfold TrP gdP
          rw [show (6 * p + q) / 6 = p by omega, show (6 * p + q) % 6 = q by omega, ho, Bool.true_and, FuP_nx, cu_uq hq (okS_b.mp ho').2.2, nI_num, show cu 0 = 0 by decide, show nI 0 = 0 from rfl]
          by_cases hf : FdP w t (nU 0 q) (nK w t (k0P w t) p q) + 1 = F0P w t
          · rw [decide_eq_true hf, Bool.and_true]
            refine (hB.2.2.2 0 _ (by omega) hk0 (by omega) hB.2.1 (by rw [show cu 0 = 0 by decide]; omega)).1 p q hpe hq (usf_b.mpr ⟨ho', ?_⟩)
            rw [nI_num]
            exact D_tea (U := 0) (n := F0P w t - 1) hq (by show F0P w t = _; omega) (by omega) (by omega)
          · rw [decide_eq_false hf, Bool.and_false]
        refine zup (P := fun p => (∀ i, i < 6 * p → gdP w t i = false) → WW g i_Pl_firstSaying 0 Φ 0 0 19 [(0, .ref 65), (3, .int (nI p))] [] μ2) 10 ?_ ?_ (fun i h => absurd h (Nat.not_lt_zero _))
        · intro hno
          unfold pfs at fin
          rw [lo_none hno, if_neg (by omega)] at fin
          exact v_Pl_firstSaying_19 ⟨fun _ => fin, fun h => absurd (nI_le (a := 10) (b := 10) (by decide) (by decide)) h⟩
        · intro p hp ih hno
          refine v_Pl_firstSaying_19 ⟨fun h => absurd h (nI_ge (b := 10) hp (by decide)), fun _ => ?_⟩
          rw [show mI μ2 65 5 = k0P w t from hP2.2.2.1]
          refine c_sby (by omega) hP2 (oI ?_)
          generalize hcan : (if bt (k0P w t) p = true then msk 6 (fun q => lef w t q && !bt 0 q) else 0) = can
          have hno2 : ∀ q, q < 6 → bt can q = okS w t 0 (k0P w t) p q := fun q hq => by
            rw [← hcan]
            unfold okS
            by_cases e : bt (k0P w t) p = true
            · rw [if_pos e, b_msk (by omega) (by omega), e]; simp [hq]
            · rw [if_neg e, b_0]; simp [e]
          have hsh : ∀ q, q < 6 → (can >>> (nI q &&& 31)) = 0 → ∀ i, q ≤ i → i < 6 → bt can i = false := fun q hq h0 i h1 h2 => by
            rw [← hcan] at h0 ⊢
            by_cases e : bt (k0P w t) p = true
            · rw [if_pos e] at h0 ⊢
              rw [b_msk (by omega) (by omega), (msk6_sh hq).mp h0 i h1 h2]; simp
            · rw [if_neg e, b_0]
          have gno : ∀ q, q < 6 → okS w t 0 (k0P w t) p q = false → gdP w t (6 * p + q) = false := fun q hq ho => by
            unfold gdP
            rw [show (6 * p + q) / 6 = p by omega, show (6 * p + q) % 6 = q by omega, ho]; rfl
          refine zup (P := fun q => (∀ i, i < 6 * p + q → gdP w t i = false) → WW g i_Pl_firstSaying 0 Φ 0 0 40 [(0, .ref 65), (3, .int (nI p)), (4, .int can), (5, .int (nI q))] [] μ2) 6 ?_ ?_ hno
          · intro hn
            refine v_Pl_firstSaying_40 ⟨fun _ => ?_, fun h => absurd (nI_le (a := 6) (b := 6) (by decide) (by decide)) h⟩
            rw [← nI_succ]; exact ih fun i hi => hn i (by omega)
          · intro q hq ihq hn
            have skip : gdP w t (6 * p + q) = false → WW g i_Pl_firstSaying 0 Φ 0 0 40 [(0, .ref 65), (3, .int (nI p)), (4, .int can), (5, .int (nI q + 1))] [] μ2 := fun hg => by
              rw [← nI_succ]
              refine ihq fun i hi => ?_
              by_cases e : i = 6 * p + q
              · rw [e]; exact hg
              · exact hn i (by omega)
            refine v_Pl_firstSaying_40 ⟨fun h => absurd h (nI_ge (b := 6) hq (by decide)), fun _ => ⟨fun h0 => ?_, fun _ => ⟨fun h1 => ⟨fun _ => skip ?_, fun h => absurd rfl h⟩, fun h1 => ⟨fun h => absurd h (by decide), fun _ => ?_⟩⟩⟩⟩
            · rw [← nI_succ]
              refine ih fun i hi => ?_
              by_cases e : i < 6 * p + q
              · exact hn i e
              · obtain ⟨q', rfl⟩ : ∃ q', i = 6 * p + q' := ⟨i - 6 * p, by omega⟩
                exact gno q' (by omega) (by rw [← hno2 q' (by omega)]; exact hsh q hq h0 q' (by omega) (by omega))
            · rw [tb0 (by omega), hno2 q hq] at h1
              exact gno q hq h1
            · rw [tb0 (by omega), hno2 q hq, Bool.not_eq_false] at h1
              rw [show mI μ2 65 5 = k0P w t from hP2.2.2.1]
              have ho' : okS w t (nI 0) (nI (num (k0P w t))) p q = true := by rw [nI_num]; exact h1
              have hpe := okS_p p10 k0_sub (by omega) ho'
              refine c_aft (by omega) hq (oI ?_)
              rw [hP2.2.2.2 p q hpe (lef_wo (okS_b.mp h1).2.1)]
              have eK : k0P w t ||| tkm w p t q = nI (kp w t (num (k0P w t)) p q) := by
                rw [kp_nI, nI_num]; rfl
              rw [eK, uq0]
              refine c_isM (uq_lt (by omega) hq) (kp_lt p10 k0_sub) (oI ?_)
              rw [mark p q hp hq h1]
              refine ⟨fun h => skip (b2i_0.mp h), fun h => ?_⟩
              have hg := b2i_n0.mp h
              unfold pfs at fin
              rw [lo_eq (show 6 * p + q < 60 by omega) hg hn, if_pos (by omega), show (6 * p + q) / 6 = p by omega, show (6 * p + q) % 6 = q by omega] at fin
              rw [show (10 : Int32) = nI 10 from rfl, pk_mul, nI_add]; exact fin
      · exact nI_lt (a := 0) (by omega) (by omega)
theorem zPr_Q {μ1 μ2 : Mem} (e : Lz zPr μ2 = Lz zPr μ1) : Lz zQ μ2 = Lz zQ μ1 := Lz_up (fun k j h => by
  unfold zPr zT at h; unfold zQ
  simp only [Bool.or_eq_true, Bool.and_eq_true, Nat.ble_eq, Nat.beq_eq] at h ⊢
  omega) e
theorem zPr_scr {μ1 μ2 : Mem} (e : Lz zPr μ2 = Lz zPr μ1) : Lv μ2 = Lv μ1 := Lz_up (fun k j h => by
  unfold zPr zT at h; unfold scr
  simp only [Bool.or_eq_true, Bool.and_eq_true, Nat.ble_eq, Nat.beq_eq] at h ⊢
  omega) e
theorem C_plan (c : CI μ w) {a b : Int32} (H : RC Φ μ w 2 0 (q_plan w a b)) : Spec g i_SO_plan 0 [.ref 0, .int a, .int b] μ Φ := by
  have t10 := ci_t10 c
  unfold q_plan at H
  refine spi o_SO_plan rfl (v_SO_plan_0 ?_)
  rcases ix_cs (n := th w) (by omega) a with ⟨et, ht⟩ | ⟨t, ht, rfl, et⟩
  · rw [gdx_n et] at H
    exact c_nT1 c ht (oVx (RC_1 H c))
  rw [gdx_s et] at H
  refine c_nT0 c ht (oV ⟨fun hb => ?_, fun hb => ?_⟩)
  · rw [if_pos hb] at H
    refine c_fewS c ht (fun h0 μ1 e1 => oI ?_) fun hpos μ1 e1 hP hB => oI ?_
    · rw [if_neg (by omega), h0] at H
      exact RC_ok H (zPr_Q e1) (c.lv (zPr_scr e1))
    · have fin := RC_ok H (zPr_Q e1) (c.lv (zPr_scr e1))
      by_cases h99 : F0P w t = 99
      · rw [if_pos h99] at fin ⊢; exact fin
      · rw [if_neg h99] at fin ⊢; exact fin
  · rw [if_neg hb] at H
    refine c_fir c ht fun μ1 e1 => oI ?_
    exact RC_ok H (zPr_Q e1) (c.lv (zPr_scr e1))
end PLK
