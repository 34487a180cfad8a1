/-! the class's plans: one saying more -/
def bef (p q p' q' : Nat) : Prop := p' < p ∨ p' = p ∧ q' < q
def SPI (w : WD) (t : Nat) (μ : Mem) (u k p q : Nat) (μ' : Mem) (d : Bool) : Prop := Lz zP67 μ' = Lz zP67 μ ∧
  (∀ u' k', u' < 64 → k' < 1024 → (mkd μ' u' k' = true ↔ mkd μ u' k' = true ∨ ∃ p' q', bef p q p' q' ∧ q' < 6 ∧ usf w t u k p' q' = true ∧ u' = uq u q' ∧ k' = kp w t k p' q')) ∧
  (d = true ↔ ∃ p' q', bef p q p' q' ∧ q' < 6 ∧ usf w t u k p' q' = true ∧ nK w t (nI k) p' q' = prs w)
section PLS
variable {g : Gl} {Φ : Out → Mem → Prop} {μ : Mem} {w : WD} {t : Nat} {u k : Nat}
theorem SPI_0 : SPI w t μ u k 0 0 μ false := by
  refine ⟨rfl, fun u' k' _ _ => ⟨fun h => Or.inl h, fun h => h.elim id fun ⟨p', q', h, _⟩ => ?_⟩, ⟨fun h => absurd h (by decide), fun ⟨p', q', h, _⟩ => ?_⟩⟩
  · exact absurd h (by unfold bef; omega)
  · exact absurd h (by unfold bef; omega)
theorem SPI_to {p q p2 q2 : Nat} {μ' : Mem} {d : Bool} (h : SPI w t μ u k p q μ' d) (hb : ∀ p' q', bef p q p' q' → bef p2 q2 p' q') (hn : ∀ p' q', bef p2 q2 p' q' → q' < 6 → usf w t u k p' q' = true → bef p q p' q') : SPI w t μ u k p2 q2 μ' d := by
  obtain ⟨h1, h2, h3⟩ := h
  refine ⟨h1, fun u' k' hu' hk' => (h2 u' k' hu' hk').trans ⟨fun h => h.imp id fun ⟨p', q', a, b, c, e⟩ => ⟨p', q', hb _ _ a, b, c, e⟩, fun h => h.imp id fun ⟨p', q', a, b, c, e⟩ => ⟨p', q', hn _ _ a b c, b, c, e⟩⟩, h3.trans ⟨fun ⟨p', q', a, b, c, e⟩ => ⟨p', q', hb _ _ a, b, c, e⟩, fun ⟨p', q', a, b, c, e⟩ => ⟨p', q', hn _ _ a b c, b, c, e⟩⟩⟩
theorem SPI_skip {p q : Nat} {μ' : Mem} {d : Bool} (h : SPI w t μ u k p q μ' d) (hn : usf w t u k p q = false) : SPI w t μ u k p (q + 1) μ' d := by
  refine SPI_to h (fun p' q' hb => by unfold bef at *; omega) fun p' q' hb _ hu => ?_
  unfold bef at *
  by_cases e : p' = p ∧ q' = q
  · rw [e.1, e.2, hn] at hu; cases hu
  · omega
theorem SPI_brk {p q : Nat} {μ' : Mem} {d : Bool} (h : SPI w t μ u k p q μ' d) (hq6 : q ≤ 6) (hn : ∀ q', q ≤ q' → q' < 6 → usf w t u k p q' = false) : SPI w t μ u k (p + 1) 0 μ' d := by
  refine SPI_to h (fun p' q' hb => by unfold bef at *; omega) fun p' q' hb h6 hu => ?_
  unfold bef at *
  by_cases e : p' = p ∧ q ≤ q'
  · rw [e.1, hn q' e.2 h6] at hu; cases hu
  · omega
theorem SPI_add {p q : Nat} {μ' μ2 : Mem} {d : Bool} (hq : q < 6) (h : SPI w t μ u k p q μ' d) (hy : usf w t u k p q = true) (e2 : Lz zP67 μ2 = Lz zP67 μ') (hm : ∀ u' k', u' < 64 → k' < 1024 → mkd μ2 u' k' = (mkd μ' u' k' || decide (u' = uq u q ∧ k' = kp w t k p q))) :
    SPI w t μ u k p (q + 1) μ2 (d || decide (nK w t (nI k) p q = prs w)) := by
  obtain ⟨h1, h2, h3⟩ := h
  refine ⟨e2.trans h1, fun u' k' hu' hk' => ?_, ?_⟩
  · rw [hm u' k' hu' hk', Bool.or_eq_true, h2 u' k' hu' hk', decide_eq_true_eq]
    constructor
    · rintro ((h | ⟨p', q', a, b, c, e⟩) | h)
      · exact Or.inl h
      · exact Or.inr ⟨p', q', by unfold bef at *; omega, b, c, e⟩
      · exact Or.inr ⟨p, q, by unfold bef; omega, hq, hy, h⟩
    · rintro (h | ⟨p', q', a, b, c, e⟩)
      · exact Or.inl (Or.inl h)
      · by_cases ee : p' = p ∧ q' = q
        · rw [ee.1, ee.2] at e; exact Or.inr e
        · exact Or.inl (Or.inr ⟨p', q', by unfold bef at *; omega, b, c, e⟩)
  · rw [Bool.or_eq_true, h3, decide_eq_true_eq]
    constructor
    · rintro (⟨p', q', a, b, c, e⟩ | h)
      · exact ⟨p', q', by unfold bef at *; omega, b, c, e⟩
      · exact ⟨p, q, by unfold bef; omega, hq, hy, h⟩
    · rintro ⟨p', q', a, b, c, e⟩
      by_cases ee : p' = p ∧ q' = q
      · rw [ee.1, ee.2] at e; exact Or.inr e
      · exact Or.inl ⟨p', q', by unfold bef at *; omega, b, c, e⟩
theorem usf_b {p q : Nat} : usf w t u k p q = true ↔ okS w t (nI u) (nI k) p q = true ∧ ¬ nK w t (nI k) p q = nI k := by
  unfold usf; simp
theorem b2i_o0 (d : Bool) : b2i d ||| 0 = b2i d := by cases d <;> decide
theorem b2i_o1 (d : Bool) : b2i d ||| 1 = 1 := by cases d <;> decide
theorem c_sprd (p10 : pe w ≤ 10) (hP : PLN w t μ) (hu : u < 64) (hk : k < 1024) (hs : subm (nI k) (prs w) = true)
    (H : ∀ μ' d, SPI w t μ u k 10 0 μ' d → Φ (.inl (some (.int (b2i d)))) μ') : Spec g i_Pl_spread 0 [.ref 65, .int (nI u), .int (nI k)] μ Φ := by
  refine spi o_Pl_spread rfl (v_Pl_spread_0 ?_)
  refine zup (P := fun p => ∀ μ' d, SPI w t μ u k p 0 μ' d → WW g i_Pl_spread 0 Φ 0 0 5 [(0, .ref 65), (1, .int (nI u)), (2, .int (nI k)), (3, .int (b2i d)), (4, .int (nI p))] [] μ') 10 ?_ ?_ μ false SPI_0
  · intro μ' d h
    exact v_Pl_spread_5 ⟨fun _ => ⟨b2i_or d, H μ' d h⟩, fun h => absurd (nI_le (a := 10) (b := 10) (by decide) (by decide)) h⟩
  · intro p hp ih μ' d h
    refine v_Pl_spread_5 ⟨fun h => absurd h (nI_ge (b := 10) hp (by decide)), fun _ => c_sby (by omega) (PLN_67 h.1 hP) (oI ?_)⟩
    generalize hcan : (if bt (nI k) p = true then msk 6 (fun q => lef w t q && !bt (nI u) q) else 0) = can
    have hno : ∀ q, q < 6 → bt can q = okS w t (nI u) (nI k) p q := fun q hq => by
      rw [← hcan]
      unfold okS
      by_cases e : bt (nI k) p = true
      · rw [if_pos e, b_msk (by omega) (by omega), e]; simp [hq]
      · rw [if_neg e, b_0]; simp [e]
    have hsh : ∀ q, q < 6 → (can >>> (nI q &&& 31)) = 0 → ∀ i, q ≤ i → i < 6 → bt can i = false := fun q hq h0 i h1 h2 => by
      rw [← hcan] at h0 ⊢
      by_cases e : bt (nI k) p = true
      · rw [if_pos e] at h0 ⊢
        rw [b_msk (by omega) (by omega), (msk6_sh hq).mp h0 i h1 h2]; simp
      · rw [if_neg e, b_0]
    refine zup (P := fun q => ∀ μ' d, SPI w t μ u k p q μ' d → WW g i_Pl_spread 0 Φ 0 0 25 [(0, .ref 65), (1, .int (nI u)), (2, .int (nI k)), (3, .int (b2i d)), (4, .int (nI p)), (5, .int can), (6, .int (nI q))] [] μ') 6 ?_ ?_ μ' d h
    · intro μ2 d2 h2
      refine v_Pl_spread_25 ⟨fun _ => ?_, fun h => absurd (nI_le (a := 6) (b := 6) (by decide) (by decide)) h⟩
      rw [← nI_succ]
      exact ih μ2 d2 (SPI_brk h2 (Nat.le_refl _) fun q' h1 h3 => by omega)
    · intro q hq ihq μ2 d2 h2
      have ihq' : ∀ μ' d, SPI w t μ u k p (q + 1) μ' d → WW g i_Pl_spread 0 Φ 0 0 25 [(0, .ref 65), (1, .int (nI u)), (2, .int (nI k)), (3, .int (b2i d)), (4, .int (nI p)), (5, .int can), (6, .int (nI q + 1))] [] μ' := fun μ' d h => by
        rw [← nI_succ]; exact ihq μ' d h
      refine v_Pl_spread_25 ⟨fun h => absurd h (nI_ge (b := 6) hq (by decide)), fun _ => ⟨fun h0 => ?_, fun _ => c_aft (by omega) hq (oI ⟨fun h1 => ?_, fun h1 => ?_⟩)⟩⟩
      · rw [← nI_succ]
        refine ih μ2 d2 (SPI_brk h2 (by omega) fun q' h1 h3 => ?_)
        cases hb : usf w t u k p q' with
        | false => rfl
        | true =>
          have := (usf_b.mp hb).1
          rw [← hno q' h3, hsh q hq h0 q' h1 h3] at this; cases this
      · rw [tb0 (by omega), hno q hq] at h1
        refine ihq' μ2 d2 (SPI_skip h2 ?_)
        unfold usf; rw [h1]; rfl
      · rw [tb0 (by omega), hno q hq, Bool.not_eq_false] at h1
        have hpe : p < pe w := okS_p p10 hs (by omega) h1
        have hwo := lef_wo (okS_b.mp h1).2.1
        have e66 : mI μ2 66 (6 * p + q) = tkm w p t q := (PLN_67 h2.1 hP).2.2.2 p q hpe hwo
        rw [e66]
        have eK : nI k ||| tkm w p t q = nI (kp w t k p q) := (kp_nI k p q).symm
        have eU : nI u ||| ((1 : Int32) <<< (nI q &&& 31)) = nI (uq u q) := (uq_nI u q).symm
        rw [eK, eU]
        refine ⟨fun he => ihq' μ2 d2 (SPI_skip h2 ?_), fun he => ?_⟩
        · rw [kp_nI] at he
          unfold usf; rw [decide_eq_true he]; simp
        · have hy : usf w t u k p q = true := usf_b.mpr ⟨h1, by rw [kp_nI] at he; exact he⟩
          refine c_mrk (uq_lt hu hq) (kp_lt p10 hs) fun μ3 e3 hm => oV ?_
          have nx3 := ihq' μ3 _ (SPI_add hq h2 hy e3 hm)
          rw [((PLN_67 e3 (PLN_67 h2.1 hP)).2.1 : mI μ3 65 4 = prs w), kp_nI, b2i_o0, b2i_o1]
          refine ⟨fun hne => ?_, fun heq => ?_⟩
          · rw [decide_eq_false hne, Bool.or_false] at nx3; exact nx3
          · rw [decide_eq_true heq, Bool.or_true] at nx3; exact nx3
theorem c_lds (p10 : pe w ≤ 10) (hP : PLN w t μ) (hu : u < 64) (hk : k < 1024) (hs : subm (nI k) (prs w) = true)
    (H : ∀ d, (d = true ↔ ∃ p q, p < pe w ∧ q < 6 ∧ okS w t (nI u) (nI k) p q = true ∧ mkd μ (uq u q) (kp w t k p q) = true) → Φ (.inl (some (.int (b2i d)))) μ) : Spec g i_Pl_leadsOn 0 [.ref 65, .int (nI u), .int (nI k)] μ Φ := by
  refine spi o_Pl_leadsOn rfl (v_Pl_leadsOn_0 ?_)
  refine zup (P := fun p => (∀ p' q', bef p 0 p' q' → q' < 6 → okS w t (nI u) (nI k) p' q' = true → mkd μ (uq u q') (kp w t k p' q') = false) → WW g i_Pl_leadsOn 0 Φ 0 0 2 [(0, .ref 65), (1, .int (nI u)), (2, .int (nI k)), (3, .int (nI p))] [] μ) 10 ?_ ?_ (fun p' q' h => absurd h (by unfold bef; omega))
  · intro h
    refine v_Pl_leadsOn_2 ⟨fun _ => z01 (H false ⟨fun h => absurd h (by decide), fun ⟨p, q, h1, h2, h3, h4⟩ => ?_⟩), fun h => absurd (nI_le (a := 10) (b := 10) (by decide) (by decide)) h⟩
    rw [h p q (by unfold bef; omega) h2 h3] at h4; cases h4
  · intro p hp ih h
    refine v_Pl_leadsOn_2 ⟨fun h => absurd h (nI_ge (b := 10) hp (by decide)), fun _ => c_sby (by omega) hP (oI ?_)⟩
    generalize hcan : (if bt (nI k) p = true then msk 6 (fun q => lef w t q && !bt (nI u) q) else 0) = can
    have hno : ∀ q, q < 6 → bt can q = okS w t (nI u) (nI k) p q := fun q hq => by
      rw [← hcan]
      unfold okS
      by_cases e : bt (nI k) p = true
      · rw [if_pos e, b_msk (by omega) (by omega), e]; simp [hq]
      · rw [if_neg e, b_0]; simp [e]
    have hsh : ∀ q, q < 6 → (can >>> (nI q &&& 31)) = 0 → ∀ i, q ≤ i → i < 6 → bt can i = false := fun q hq h0 i h1 h2 => by
      rw [← hcan] at h0 ⊢
      by_cases e : bt (nI k) p = true
      · rw [if_pos e] at h0 ⊢
        rw [b_msk (by omega) (by omega), (msk6_sh hq).mp h0 i h1 h2]; simp
      · rw [if_neg e, b_0]
    refine zup (P := fun q => (∀ p' q', bef p q p' q' → q' < 6 → okS w t (nI u) (nI k) p' q' = true → mkd μ (uq u q') (kp w t k p' q') = false) → WW g i_Pl_leadsOn 0 Φ 0 0 20 [(0, .ref 65), (1, .int (nI u)), (2, .int (nI k)), (3, .int (nI p)), (4, .int can), (5, .int (nI q))] [] μ) 6 ?_ ?_ h
    · intro h2
      refine v_Pl_leadsOn_20 ⟨fun _ => ?_, fun h => absurd (nI_le (a := 6) (b := 6) (by decide) (by decide)) h⟩
      rw [← nI_succ]
      exact ih fun p' q' hb h6 => h2 p' q' (by unfold bef at *; omega) h6
    · intro q hq ihq h2
      have skip : (okS w t (nI u) (nI k) p q = true → mkd μ (uq u q) (kp w t k p q) = false) → WW g i_Pl_leadsOn 0 Φ 0 0 20 [(0, .ref 65), (1, .int (nI u)), (2, .int (nI k)), (3, .int (nI p)), (4, .int can), (5, .int (nI q + 1))] [] μ := fun hn => by
        rw [← nI_succ]
        refine ihq fun p' q' hb h6 ho => ?_
        by_cases e : p' = p ∧ q' = q
        · rw [e.1, e.2] at ho ⊢; exact hn ho
        · exact h2 p' q' (by unfold bef at *; omega) h6 ho
      refine v_Pl_leadsOn_20 ⟨fun h => absurd h (nI_ge (b := 6) hq (by decide)), fun _ => ⟨fun h0 => ?_, fun _ => ⟨fun h1 => ⟨fun _ => skip ?_, fun h => absurd rfl h⟩, fun h1 => ⟨fun h => absurd h (by decide), fun _ => c_aft (by omega) hq (oI ?_)⟩⟩⟩⟩
      · rw [← nI_succ]
        refine ih fun p' q' hb h6 ho => ?_
        by_cases e : p' = p ∧ q ≤ q'
        · rw [e.1, ← hno q' h6, hsh q hq h0 q' e.2 h6] at ho; cases ho
        · exact h2 p' q' (by unfold bef at *; omega) h6 ho
      · rw [tb0 (by omega), hno q hq] at h1
        intro ho; rw [h1] at ho; cases ho
      · rw [tb0 (by omega), hno q hq, Bool.not_eq_false] at h1
        have hpe : p < pe w := okS_p p10 hs (by omega) h1
        have hwo := lef_wo (okS_b.mp h1).2.1
        rw [hP.2.2.2 p q hpe hwo]
        have eK : nI k ||| tkm w p t q = nI (kp w t k p q) := (kp_nI k p q).symm
        have eU : nI u ||| ((1 : Int32) <<< (nI q &&& 31)) = nI (uq u q) := (uq_nI u q).symm
        rw [eK, eU]
        refine c_isM (uq_lt hu hq) (kp_lt p10 hs) (oI ⟨fun h => skip fun _ => b2i_0.mp h, fun h => z11 (H true ⟨fun _ => ⟨p, q, hpe, hq, h1, b2i_n0.mp h⟩, fun _ => rfl⟩)⟩)
end PLS
