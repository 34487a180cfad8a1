/-! the class's plans: the fewest sayings, the first of them -/
def k0P (w : WD) (t : Nat) : Int32 := msk (pe w) (fun p => kno w p t) &&& prs w
def cu (u : Nat) : Nat := ct (bt (nI u)) 6
def FuP (w : WD) (t u k : Nat) : Nat := FdP w t (nI u) (nI k)
def F0P (w : WD) (t : Nat) : Nat := FdP w t 0 (k0P w t)
def SndP (w : WD) (t : Nat) (M : Nat → Nat → Bool) : Prop := ∀ u k, u < 64 → k < 1024 → M u k = true → subm (nI k) (prs w) = true ∧ F0P w t ≤ cu u + FuP w t u k
def CmpP (w : WD) (t u k : Nat) (M : Nat → Nat → Bool) : Prop := ∀ p q, p < pe w → q < 6 → usf w t u k p q = true → M (uq u q) (kp w t k p q) = true
def BIP (w : WD) (t u0 k1 : Nat) (f : Option Nat) (M : Nat → Nat → Bool) : Prop := SndP w t M ∧ M 0 (num (k0P w t)) = true ∧ (∀ n, f = some n → F0P w t ≤ n ∧ n ≤ 7) ∧
  ∀ u k, u < 64 → k < 1024 → (u < u0 ∨ u = u0 ∧ k < k1) → M u k = true → cu u < F0P w t → CmpP w t u k M ∧ (FuP w t u k = 1 → ∃ n, f = some n ∧ n ≤ cu u + 1)
theorem cu_6 (u : Nat) : cu u ≤ 6 := ct_le _ _
theorem cu_bc {u : Nat} (hu : u < 64) : bcF (nI u) = nI (cu u) := by
  rw [bc_small (fun i h1 h2 => b_nI_lt (n := 6) hu (by omega) h2)]
  congr 1
  exact ct_out (by omega) fun i h1 h2 => b_nI_lt (n := 6) hu h1 (by omega)
theorem cu_uq {u q : Nat} (hq : q < 6) (hb : bt (nI u) q = false) : cu (uq u q) = cu u + 1 := by
  unfold cu
  refine ct_one hq hb fun i hi => ?_
  rw [uq_nI, b_nU (by omega) (by omega)]
theorem uq_gt {u q : Nat} (hu : u < 64) (hq : q < 6) (hb : bt (nI u) q = false) : u < uq u q := by
  have h1 : u ≤ uq u q := subm_le (by omega) (subm_b.mpr fun i hi h => by rw [b_nU (by omega) hi, h]; rfl)
  have h2 : u ≠ uq u q := fun e => by
    have : bt (nI (uq u q)) q = true := by rw [uq_nI, b_nU (by omega) (by omega)]; simp
    rw [← e, hb] at this; cases this
  omega
theorem or63 : ∀ k, k < 1024 → nI k ||| 63 = nI (k / 64 * 64 + 63) := by decide +kernel
section PLF
variable {w : WD} {t : Nat} {M M' : Nat → Nat → Bool} {f : Option Nat}
theorem BIP_move {u0 k1 k2 : Nat} (h : BIP w t u0 k1 f M) (hn : ∀ k, k1 ≤ k → k < k2 → k < 1024 → M u0 k = false) : BIP w t u0 k2 f M := by
  refine ⟨h.1, h.2.1, h.2.2.1, fun u k hu hk hb hm => ?_⟩
  refine h.2.2.2 u k hu hk ?_ hm
  by_cases e : u = u0 ∧ k1 ≤ k
  · have := hn k e.2 (by omega) hk
    rw [← e.1, hm] at this; cases this
  · omega
theorem BIP_row {u0 k1 : Nat} (h : BIP w t u0 k1 f M) (hk1 : num (prs w) < k1) : BIP w t (u0 + 1) 0 f M := by
  refine ⟨h.1, h.2.1, h.2.2.1, fun u k hu hk hb hm => ?_⟩
  refine h.2.2.2 u k hu hk ?_ hm
  have := subm_le (by omega) (h.1 u k hu hk hm).1
  omega
theorem BIP_skip {u0 n : Nat} (h : BIP w t u0 0 (some n) M) (hn : n ≤ cu u0) : BIP w t (u0 + 1) 0 (some n) M := by
  refine ⟨h.1, h.2.1, h.2.2.1, fun u k hu hk hb hm hc => ?_⟩
  by_cases e : u = u0
  · have := (h.2.2.1 n rfl).1
    rw [e] at hc; omega
  · exact h.2.2.2 u k hu hk (by omega) hm hc
theorem usf_ok {u k p q : Nat} (h : usf w t u k p q = true) : okS w t (nI u) (nI k) p q = true ∧ ¬ nK w t (nI k) p q = nI k := usf_b.mp h
theorem FuP_nx (u k p q : Nat) : FuP w t (uq u q) (kp w t k p q) = FdP w t (nU (nI u) q) (nK w t (nI k) p q) := by unfold FuP; rw [uq_nI, kp_nI]
theorem BIP_sp {μ μ' : Mem} {d : Bool} {u0 k1 : Nat} (p10 : pe w ≤ 10) (hu0 : u0 < 64) (hk1 : k1 < 1024) (h : BIP w t u0 k1 f (mkd μ)) (hm : mkd μ u0 k1 = true) (hs : SPI w t μ u0 k1 10 0 μ' d) (hf : ∀ n, f = some n → cu u0 < n) :
    BIP w t u0 (k1 + 1) (if d = true then some (cu u0 + 1) else f) (mkd μ') := by
  obtain ⟨-, s2, s3⟩ := hs
  obtain ⟨a1, a2, a3, a4⟩ := h
  obtain ⟨b1, b2⟩ := a1 u0 k1 hu0 hk1 hm
  have up : ∀ u k, u < 64 → k < 1024 → mkd μ u k = true → mkd μ' u k = true := fun u k hu hk h => (s2 u k hu hk).mpr (Or.inl h)
  have lo : ∀ u k, u < 64 → k < 1024 → u ≤ u0 → mkd μ' u k = true → mkd μ u k = true := fun u k hu hk hle h => by
    rcases (s2 u k hu hk).mp h with h | ⟨p, q, -, h2, h3, h4, -⟩
    · exact h
    · have := uq_gt hu0 h2 (okS_b.mp (usf_ok h3).1).2.2
      omega
  have p_in : ∀ p q, bef 10 0 p q ↔ p < 10 := fun p q => by unfold bef; omega
  refine ⟨fun u k hu hk h => ?_, up _ _ (by omega) ?_ a2, fun n hn => ?_, fun u k hu hk hb h hc => ?_⟩
  · rcases (s2 u k hu hk).mp h with h | ⟨p, q, h1, h2, h3, h4, h5⟩
    · exact a1 u k hu hk h
    · rw [h4, h5]
      have ho := (usf_ok h3).1
      have hp := okS_p p10 b1 (by have := (p_in p q).mp h1; omega) ho
      refine ⟨kp_sub p10 b1, ?_⟩
      have := D_le hp h2 ho
      rw [cu_uq h2 (okS_b.mp ho).2.2, FuP_nx]
      have : FuP w t u0 k1 ≤ 1 + FdP w t (nU (nI u0) q) (nK w t (nI k1) p q) := this
      omega
  · have : ∀ i, 10 ≤ i → i < 32 → bt (k0P w t) i = false := fun i h1 h2 => by
      unfold k0P; rw [b_and, b_msk (by omega) h2, decide_eq_false (by omega)]; simp
    exact num_lt (n := 10) (by omega) this
  · by_cases hd : d = true
    · rw [if_pos hd] at hn
      have hn := Option.some.inj hn
      obtain ⟨p, q, h1, h2, h3, h4⟩ := s3.mp hd
      have ho := (usf_ok h3).1
      have hp := okS_p p10 b1 (by have := (p_in p q).mp h1; omega) ho
      have h5 := D_le hp h2 ho
      rw [D_all h4] at h5
      have : FuP w t u0 k1 ≤ 1 := h5
      have := cu_6 u0
      omega
    · rw [if_neg hd] at hn; exact a3 n hn
  · have hmu := lo u k hu hk (by omega) h
    by_cases e : u = u0 ∧ k = k1
    · rw [e.1, e.2] at *
      refine ⟨fun p q hp hq hy => (s2 _ _ (uq_lt hu0 hq) (kp_lt p10 b1)).mpr (Or.inr ⟨p, q, (p_in p q).mpr (by omega), hq, hy, rfl, rfl⟩), fun hF => ?_⟩
      obtain ⟨p, q, h1, h2, h3, h4, h5⟩ := D_pick (n := 0) (by omega) hF
      have hd : d = true := s3.mpr ⟨p, q, (p_in p q).mpr (by omega), h2, usf_b.mpr ⟨h3, h5⟩, D_0 h4⟩
      rw [if_pos hd]
      exact ⟨_, rfl, Nat.le_refl _⟩
    · obtain ⟨c1, c2⟩ := a4 u k hu hk (by omega) hmu hc
      have hsu := (a1 u k hu hk hmu).1
      refine ⟨fun p q hp hq hy => up _ _ (uq_lt hu hq) (kp_lt p10 hsu) (c1 p q hp hq hy), fun hF => ?_⟩
      obtain ⟨n, n1, n2⟩ := c2 hF
      by_cases hd : d = true
      · rw [if_pos hd]
        have := hf n n1
        exact ⟨_, rfl, by omega⟩
      · rw [if_neg hd]; exact ⟨n, n1, n2⟩
theorem k0_lt (p10 : pe w ≤ 10) : num (k0P w t) < 1024 :=
  num_lt (n := 10) (by omega) fun i h1 h2 => by unfold k0P; rw [b_and, b_msk (by omega) h2, decide_eq_false (by omega)]; simp
/-- along a shortest plan all is marked -/
theorem BIP_path (p10 : pe w ≤ 10) (h : BIP w t 64 0 f M) (h98 : F0P w t ≤ 98) : ∀ j, j < F0P w t → ∃ u k, u < 64 ∧ k < 1024 ∧ M u k = true ∧ cu u = j ∧ FuP w t u k + j = F0P w t := by
  intro j
  induction j with
  | zero =>
    intro _
    refine ⟨0, num (k0P w t), by omega, k0_lt p10, h.2.1, by decide, ?_⟩
    show FdP w t (nI 0) (nI (num (k0P w t))) + 0 = _
    rw [nI_num]; rfl
  | succ j ih =>
    intro hj
    obtain ⟨u, k, h1, h2, h3, h4, h5⟩ := ih (by omega)
    obtain ⟨m, hm⟩ : ∃ m, FuP w t u k = m + 1 := ⟨FuP w t u k - 1, by omega⟩
    obtain ⟨p, q, k1, k2, k3, k4, k5⟩ := D_pick (n := m) (by omega) hm
    have hsu := (h.1 u k h1 h2 h3).1
    refine ⟨uq u q, kp w t k p q, uq_lt h1 k2, kp_lt p10 hsu, (h.2.2.2 u k h1 h2 (by omega) h3 (by omega)).1 p q k1 k2 (usf_b.mpr ⟨k3, k5⟩), ?_, ?_⟩
    · rw [cu_uq k2 (okS_b.mp k3).2.2, h4]
    · rw [FuP_nx, k4]; omega
theorem BIP_end (p10 : pe w ≤ 10) (h : BIP w t 64 0 f M) (h0 : 0 < F0P w t) : f = if F0P w t = 99 then none else some (F0P w t) := by
  by_cases e : F0P w t = 99
  · rw [if_pos e]
    cases hf : f with
    | none => rfl
    | some n => have := h.2.2.1 n hf; omega
  · rw [if_neg e]
    have h99 : F0P w t ≤ 99 := D_99
    obtain ⟨u, k, h1, h2, h3, h4, h5⟩ := BIP_path p10 h (by omega) (F0P w t - 1) (by omega)
    obtain ⟨n, n1, n2⟩ := (h.2.2.2 u k h1 h2 (by omega) h3 (by omega)).2 (by omega)
    have := (h.2.2.1 n n1).1
    rw [n1]; congr 1; omega
end PLF
section PLG
variable {g : Gl} {Φ : Out → Mem → Prop} {μ : Mem} {w : WD} {t : Nat}
theorem num_prs (p10 : pe w ≤ 10) : num (prs w) < 1024 := num_lt (n := 10) (by omega) fun i h1 h2 => by
  cases hb : bt (prs w) i with
  | false => rfl
  | true => have := (prs_b p10 h2).mp hb; omega
theorem c_few60 (p10 : pe w ≤ 10) {u : Nat} (hu : u < 64) {μ0 : Mem} (hP0 : PLN w t μ0)
    (HX : ∀ μ' f, Lz zP67 μ' = Lz zP67 μ0 → BIP w t (u + 1) 0 f (mkd μ') → WW g i_Pl_fewestSayings 0 Φ 0 0 31 [(0, .ref 65), (2, .int (ov f)), (3, .int (nI u + 1))] [] μ') :
    ∀ d k, 1088 ≤ k + d → k ≤ 1088 → ∀ μ' f, Lz zP67 μ' = Lz zP67 μ0 → BIP w t u k f (mkd μ') → (∀ n, f = some n → cu u < n) → WW g i_Pl_fewestSayings 0 Φ 0 0 60 [(0, .ref 65), (2, .int (ov f)), (3, .int (nI u)), (4, .int (nI (cu u))), (5, .int (nI k))] [] μ' := by
  have hpr := num_prs p10
  intro d
  induction d with
  | zero =>
    intro k hd hk μ' f e h hf
    refine v_Pl_fewestSayings_60 ⟨fun _ => HX μ' f e (BIP_row h (by omega)), fun q => absurd ?_ q⟩
    rw [(PLN_67 e hP0).2.1, ← nI_num (prs w), nI_ltI (by omega) (by omega)]; omega
  | succ d ih =>
    intro k hd hk μ' f e h hf
    have hPn := PLN_67 e hP0
    refine v_Pl_fewestSayings_60 ⟨fun q => HX μ' f e (BIP_row h ?_), fun q => ?_⟩
    · rw [hPn.2.1, ← nI_num (prs w), nI_ltI (by omega) (by omega)] at q; exact q
    · have hkp : k ≤ num (prs w) := by
        rw [hPn.2.1, ← nI_num (prs w), nI_ltI (by omega) (by omega)] at q; omega
      have hk1 : k < 1024 := by omega
      have go1 : ∀ μ2 f2, Lz zP67 μ2 = Lz zP67 μ0 → BIP w t u (k + 1) f2 (mkd μ2) → (∀ n, f2 = some n → cu u < n) → WW g i_Pl_fewestSayings 0 Φ 0 0 60 [(0, .ref 65), (2, .int (ov f2)), (3, .int (nI u)), (4, .int (nI (cu u))), (5, .int (nI k + 1))] [] μ2 := fun μ2 f2 e2 h2 hf2 => by
        rw [← nI_succ]; exact ih (k + 1) (by omega) (by omega) μ2 f2 e2 h2 hf2
      refine c_isB hu hk1 (oI ⟨fun _ => c_isM hu hk1 (oI ⟨fun hm => ?_, fun hm => ?_⟩), fun q => absurd rfl q⟩) (fun hb => oI ⟨fun q => absurd q (by decide), fun _ => ?_⟩)
      · have hm := b2i_0.mp hm
        refine go1 μ' f e (BIP_move h fun k' h1 h2 _ => ?_) hf
        rw [show k' = k by omega]; exact hm
      · have hm := b2i_n0.mp hm
        have hs := (h.1 u k hu hk1 hm).1
        refine c_sprd p10 hPn hu hk1 hs fun μ2 d2 s2 => oI ?_
        have nxt := BIP_sp p10 hu hk1 h hm s2 hf
        have e2 := s2.1.trans e
        refine ⟨fun hd2 => ?_, fun hd2 => ?_⟩
        · have hd2 := b2i_0.mp hd2
          rw [if_neg (by rw [hd2]; decide)] at nxt
          exact go1 μ2 f e2 nxt hf
        · have hd2 := b2i_n0.mp hd2
          rw [if_pos hd2] at nxt
          have := go1 μ2 (some (cu u + 1)) e2 nxt fun n hn => by
            have := Option.some.inj hn; omega
          rw [show ov (some (cu u + 1)) = nI (cu u) + 1 from nI_succ _] at this; exact this
      · rw [or63 k hk1, ← nI_succ]
        refine ih _ (by omega) (by omega) μ' f e (BIP_move h fun k' h1 h2 _ => ?_) hf
        exact hb k' (by omega)
theorem c_few31 (p10 : pe w ≤ 10) {μ0 : Mem} (hP0 : PLN w t μ0) (h0 : 0 < F0P w t) (hb : BIP w t 0 0 none (mkd μ0))
    (H : ∀ μ', Lz zP67 μ' = Lz zP67 μ0 → BIP w t 64 0 (if F0P w t = 99 then none else some (F0P w t)) (mkd μ') → Φ (.inl (some (.int (ov (if F0P w t = 99 then none else some (F0P w t)))))) μ') :
    WW g i_Pl_fewestSayings 0 Φ 0 0 31 [(0, .ref 65), (2, .int (-1)), (3, .int 0)] [] μ0 := by
  refine zup (P := fun u => ∀ μ' f, Lz zP67 μ' = Lz zP67 μ0 → BIP w t u 0 f (mkd μ') → WW g i_Pl_fewestSayings 0 Φ 0 0 31 [(0, .ref 65), (2, .int (ov f)), (3, .int (nI u))] [] μ') 64 ?_ ?_ μ0 none rfl hb
  · intro μ' f e h
    have hf := BIP_end p10 h h0
    rw [hf] at h ⊢
    exact v_Pl_fewestSayings_31 ⟨fun _ => H μ' e h, fun h => absurd (nI_le (a := 64) (b := 64) (by decide) (by decide)) h⟩
  · intro u hu ih μ' f e h
    refine v_Pl_fewestSayings_31 ⟨fun h => absurd h (nI_ge (b := 64) hu (by decide)), fun _ => c_bc (oI ?_)⟩
    rw [cu_bc hu]
    have c6 := cu_6 u
    have nx := c_few60 (g := g) (Φ := Φ) p10 hu hP0 (fun μ2 f2 e2 h2 => by rw [← nI_succ]; exact ih μ2 f2 e2 h2) 1088 0 (by omega) (by omega) μ' f e h
    cases hf : f with
    | none =>
      rw [hf] at nx
      exact ⟨fun _ => nx fun n hn => (nomatch hn), fun q => absurd rfl q⟩
    | some n =>
      rw [hf] at nx h
      have hn7 := (h.2.2.1 n rfl).2
      refine ⟨fun q => ?_, fun _ => ⟨fun q => ?_, fun q => ?_⟩⟩
      · exact absurd (show nI n < 0 by rw [show nI n = -1 from q]; decide) (nI_pos (by omega))
      · refine nx fun m hm => ?_
        have := Option.some.inj hm
        have q : nI (cu u) < nI n := q
        rw [nI_ltI (by omega) (by omega)] at q; omega
      · have q : ¬ nI (cu u) < nI n := q
        rw [nI_ltI (by omega) (by omega)] at q
        have := ih μ' (some n) e (BIP_skip h (by omega))
        rw [nI_succ] at this; exact this
theorem c_prep (c : CI μ w) (ht : t < th w) (H : ∀ μ', Lz zPr μ' = Lz zPr μ → PLN w t μ' → (∀ u k, u < 64 → k < 1024 → mkd μ' u k = false) → Φ (.inl none) μ') : Spec g i_Pl_prepare 0 [.ref 65, .int (nI t)] μ Φ := by
  have p10 := ci_p10 c
  have t10 := ci_t10 c
  have w6 := (wf_wo c.2.1 (show t < 10 by omega)).2.1
  have lvP : ∀ {μ1 μ2 : Mem}, Lz zPr μ2 = Lz zPr μ1 → Lv μ2 = Lv μ1 := fun e => Lz_up (fun k j h => by
    unfold zPr zT at h; unfold scr
    simp only [Bool.or_eq_true, Bool.and_eq_true, Nat.ble_eq, Nat.beq_eq] at h ⊢
    omega) e
  refine spi o_Pl_prepare rfl (v_Pl_prepare_0 (c_left c (by omega) (oI ?_)))
  have z1 : Lz zPr (sI μ 65 3 (msk 6 (lef w t))) = Lz zPr μ := Lz_I rfl
  refine c_pre (c.lv (lvP z1)) (oI ?_)
  have z2 : Lz zPr (sI (sI μ 65 3 (msk 6 (lef w t))) 65 4 (msk (pe w) (her w))) = Lz zPr μ := (Lz_I rfl).trans z1
  refine c_knr (c.lv (lvP z2)) (by omega) (oI ?_)
  have z3 : Lz zPr (sI (sI (sI μ 65 3 (msk 6 (lef w t))) 65 4 (msk (pe w) (her w))) 65 5 (msk (pe w) (fun p => kno w p t) &&& mI (sI (sI μ 65 3 (msk 6 (lef w t))) 65 4 (msk (pe w) (her w))) 65 4)) = Lz zPr μ := (Lz_I rfl).trans z2
  have f1 : mI (sI (sI (sI μ 65 3 (msk 6 (lef w t))) 65 4 (msk (pe w) (her w))) 65 5 (msk (pe w) (fun p => kno w p t) &&& mI (sI (sI μ 65 3 (msk 6 (lef w t))) 65 4 (msk (pe w) (her w))) 65 4)) 65 3 = msk 6 (lef w t) := rfl
  have f2 : mI (sI (sI (sI μ 65 3 (msk 6 (lef w t))) 65 4 (msk (pe w) (her w))) 65 5 (msk (pe w) (fun p => kno w p t) &&& mI (sI (sI μ 65 3 (msk 6 (lef w t))) 65 4 (msk (pe w) (her w))) 65 4)) 65 4 = prs w := rfl
  have f3 : mI (sI (sI (sI μ 65 3 (msk 6 (lef w t))) 65 4 (msk (pe w) (her w))) 65 5 (msk (pe w) (fun p => kno w p t) &&& mI (sI (sI μ 65 3 (msk 6 (lef w t))) 65 4 (msk (pe w) (her w))) 65 4)) 65 5 = msk (pe w) (fun p => kno w p t) &&& prs w := rfl
  generalize (sI (sI (sI μ 65 3 (msk 6 (lef w t))) 65 4 (msk (pe w) (her w))) 65 5 (msk (pe w) (fun p => kno w p t) &&& mI (sI (sI μ 65 3 (msk 6 (lef w t))) 65 4 (msk (pe w) (her w))) 65 4)) = μ3 at *
  refine zup (P := fun p => ∀ μ', Lz zPr μ' = Lz zPr μ → mI μ' 65 = mI μ3 65 → (∀ p' q', p' < p → q' < wo w t → mI μ' 66 (6 * p' + q') = tkm w p' t q') → WW g i_Pl_prepare 0 Φ 0 0 42 [(0, .ref 65), (1, .int (nI t)), (2, .int (nI p))] [] μ') (pe w) ?_ ?_ μ3 z3 rfl (fun p' q' h => absurd h (Nat.not_lt_zero _))
  · intro μ' e h65 h66
    have c' := c.lv (lvP e)
    refine v_Pl_prepare_42 ⟨fun _ => ?_, fun h => absurd (by rw [ci_pe c']; exact nI_le (Nat.le_refl _) (by omega)) h⟩
    refine spi o_Arr_fill rfl (v_Arr_fill_0 ?_)
    refine zup (P := fun i => ∀ μ2, Lz zP67 μ2 = Lz zP67 μ' → (∀ j, j < i → mL μ2 67 j = 0) → WW g i_Arr_fill 0 (onV (fun μ1 => Φ (.inl none) μ1) (fun e μ1 => rtM i_Pl_prepare Φ (.inr e) 0 0 μ1)) 0 0 6 [(0, .ref 67), (1, .long 0), (3, .int (nI i)), (4, .int (nI 1024))] [] μ2) 1024 ?_ ?_ μ' rfl (fun j h => absurd h (Nat.not_lt_zero _))
    · intro μ2 e2 hz
      refine v_Arr_fill_6 ⟨fun _ => oV (H μ2 ((Lz_up (fun k j h => by
        unfold zP67 at h; unfold zPr
        simp only [Bool.or_eq_true, Bool.and_eq_true, Nat.ble_eq, Nat.beq_eq] at h ⊢
        omega) e2).trans e) ?_ fun u k hu hk => by unfold mkd; rw [hz _ (by omega), bl_0]), fun h => absurd (nI_le (Nat.le_refl _) (by omega)) h⟩
      refine PLN_67 e2 ⟨by rw [h65]; exact f1, by rw [h65]; exact f2, by rw [h65]; exact f3, h66⟩
    · intro i hi ih μ2 e2 hz
      refine v_Arr_fill_6 ⟨fun h => absurd h (nI_ge hi (by omega)), fun _ => ⟨vp_in_nI hi (by decide), ?_⟩⟩
      rw [nx_nI (by omega), ← nI_succ]
      refine ih _ ((Lz_L rfl).trans e2) fun j hj => ?_
      rw [rL_L, if_pos rfl]
      by_cases q : j = i
      · rw [q, updL_s]
      · rw [updL_n q]; exact hz j (by omega)
  · intro p hp ih μ' e h65 h66
    have c' := c.lv (lvP e)
    refine v_Pl_prepare_42 ⟨fun h => absurd h (by rw [ci_pe c']; exact nI_ge hp (by omega)), fun _ => ?_⟩
    refine zup (P := fun q => ∀ μ2, Lz zPr μ2 = Lz zPr μ → mI μ2 65 = mI μ3 65 → (∀ p' q', (p' < p ∨ p' = p ∧ q' < q) → q' < wo w t → mI μ2 66 (6 * p' + q') = tkm w p' t q') → WW g i_Pl_prepare 0 Φ 0 0 58 [(0, .ref 65), (1, .int (nI t)), (2, .int (nI p)), (3, .int (nI q))] [] μ2) (wo w t) ?_ ?_ μ' e h65 (fun p' q' h1 h2 => h66 p' q' (by omega) h2)
    · intro μ2 e2 g65 g66
      have c2 := c.lv (lvP e2)
      refine v_Pl_prepare_58 ⟨vp_in_nI (by omega) (by decide), fun _ => ?_, fun h => absurd (by rw [nx_nI (by omega), ci_wo c2 (by omega)]; exact nI_le (Nat.le_refl _) (by omega)) h⟩
      rw [← nI_succ]
      exact ih μ2 e2 g65 fun p' q' h1 h2 => g66 p' q' (by omega) h2
    · intro q hq ihq μ2 e2 g65 g66
      have c2 := c.lv (lvP e2)
      refine v_Pl_prepare_58 ⟨vp_in_nI (by omega) (by decide), fun h => absurd h (by rw [nx_nI (by omega), ci_wo c2 (by omega)]; exact nI_ge hq (by omega)), fun _ => c_tkt c2 (by omega) ht fun μ4 e4 => oI ?_⟩
      rw [show (6 : Int32) = nI 6 from rfl, pk_mul, nI_add, show p * 6 + q = 6 * p + q by omega, nx_nI (by omega), ← nI_succ]
      refine ⟨vp_in_nI (by omega) (by decide), ihq _ ((Lz_I rfl).trans ((Lz_up (fun k j h => by unfold zPr; rw [h]; simp) e4).trans e2)) ?_ fun p' q' h1 h2 => ?_⟩
      · rw [rI_I, if_neg (by decide), rdI e4 fun _ => rfl]; exact g65
      · rw [rI_I, if_pos rfl]
        by_cases ee : p' = p ∧ q' = q
        · rw [ee.1, ee.2, upd_s]
        · rw [upd_n (by omega), rdI e4 fun _ => rfl]; exact g66 p' q' (by omega) h2
/-- the fewest sayings: the marks that are left, the answer -/
theorem c_fewS (c : CI μ w) (ht : t < th w) (H0 : F0P w t = 0 → ∀ μ', Lz zPr μ' = Lz zPr μ → Φ (.inl (some (.int 0))) μ')
    (H : 0 < F0P w t → ∀ μ', Lz zPr μ' = Lz zPr μ → PLN w t μ' → BIP w t 64 0 (if F0P w t = 99 then none else some (F0P w t)) (mkd μ') → Φ (.inl (some (.int (ov (if F0P w t = 99 then none else some (F0P w t)))))) μ') : Spec g i_Pl_fewestSayings 0 [.ref 65, .int (nI t)] μ Φ := by
  have p10 := ci_p10 c
  refine spi o_Pl_fewestSayings rfl (v_Pl_fewestSayings_0 (c_prep c ht fun μ1 e1 hP hz => oV ?_))
  rw [hP.2.1, hP.2.2.1]
  refine ⟨fun hne => ?_, fun he => H0 (D_all he) μ1 e1⟩
  have hk0 := k0_lt (t := t) p10
  have e0 : msk (pe w) (fun p => kno w p t) &&& prs w = nI (num (k0P w t)) := (nI_num _).symm
  rw [e0]
  have hpos : 0 < F0P w t := Nat.pos_of_ne_zero fun h => hne (D_0 h)
  refine c_mrk (u := 0) (by omega) hk0 fun μ2 e2 hm => oV (c_few31 p10 (PLN_67 e2 hP) hpos ?_ fun μ3 e3 hB => H hpos μ3 ((Lz_up (fun k j h => by
    unfold zP67 at h; unfold zPr
    simp only [Bool.or_eq_true, Bool.and_eq_true, Nat.ble_eq, Nat.beq_eq] at h ⊢
    omega) (e3.trans e2)).trans e1) (PLN_67 (e3.trans e2) hP) hB)
  refine ⟨fun u k hu hk h => ?_, ?_, fun n hn => (nomatch hn), fun u k hu hk hb => by omega⟩
  · rw [hm u k hu hk, hz u k hu hk, Bool.false_or, decide_eq_true_eq] at h
    rw [h.1, h.2]
    refine ⟨?_, ?_⟩
    · rw [nI_num]
      exact subm_b.mpr fun i hi h => by unfold k0P at h; rw [b_and, Bool.and_eq_true] at h; exact h.2
    · show F0P w t ≤ _ + FdP w t (nI 0) (nI (num (k0P w t)))
      rw [nI_num]
      exact Nat.le_add_left _ _
  · rw [hm 0 _ (by omega) hk0, decide_eq_true ⟨rfl, rfl⟩, Bool.or_true]
end PLG
