/-! the class's plans: marks -/
def mkd (μ : Mem) (u k : Nat) : Bool := bl (mL μ 67 (16 * u + k / 64)) (k % 64)
def zP67 (k _j : Nat) : Bool := Nat.beq k 67
def zPr (k j : Nat) : Bool := (Nat.ble 65 k && Nat.ble k 67) || zT k j
def PLN (w : WD) (t : Nat) (μ : Mem) : Prop := mI μ 65 3 = msk 6 (lef w t) ∧ mI μ 65 4 = prs w ∧ mI μ 65 5 = msk (pe w) (fun p => kno w p t) &&& prs w ∧ ∀ p q, p < pe w → q < wo w t → mI μ 66 (6 * p + q) = tkm w p t q
theorem PLN_67 {w : WD} {t : Nat} {μ μ' : Mem} (e : Lz zP67 μ' = Lz zP67 μ) (h : PLN w t μ) : PLN w t μ' := by
  unfold PLN
  rw [rdI e (k := 65) (fun _ => rfl), rdI e (k := 66) (fun _ => rfl)]; exact h
theorem pidx {u k : Nat} (hu : u < 64) (hk : k < 1024) : (nI u * 16) + (nI k >>> ((6 : Int32) &&& 31)) = nI (16 * u + k / 64) := by
  rw [show (16 : Int32) = nI 16 from rfl, pk_mul, pk_shrN (by omega) _ 6 (by decide), nI_add]
  congr 1; omega
theorem pmod {k : Nat} (hk : k < 1024) : nI k &&& 63 = nI (k % 64) := by
  rw [pk_andN (by omega) 6 (by decide)]
theorem lcm0 (x : Int64) : lg_cmp x 0 = 0 ↔ x = 0 := by
  unfold lg_cmp
  constructor
  · intro h
    split at h
    · exact absurd h (by decide)
    · split at h
      · assumption
      · exact absurd h (by decide)
  · intro h; subst h; decide
section PLC
variable {g : Gl} {Φ : Out → Mem → Prop} {μ : Mem} {w : WD} {t : Nat}
theorem c_isM {u k : Nat} (hu : u < 64) (hk : k < 1024) (H : Φ (.inl (some (.int (b2i (mkd μ u k))))) μ) : Spec g i_Pl_isMarked 0 [.ref 65, .int (nI u), .int (nI k)] μ Φ := by
  refine spi o_Pl_isMarked rfl (v_Pl_isMarked_0 ?_)
  rw [pidx hu hk, pmod hk, nx_nI (by omega), bl_u1 _ (by omega), lcm0]
  refine ⟨vp_in_nI (by omega) (by decide), fun h => ?_, fun h => ?_⟩
  · have : mkd μ u k = false := by
      unfold mkd
      cases hb : bl (mL μ 67 (16 * u + k / 64)) (k % 64) with
      | false => rfl
      | true => rw [hb] at h; exact absurd h (by decide)
    rw [this] at H; exact z01 H
  · have : mkd μ u k = true := by
      unfold mkd
      cases hb : bl (mL μ 67 (16 * u + k / 64)) (k % 64) with
      | true => rfl
      | false => rw [hb] at h; exact absurd rfl h
    rw [this] at H; exact z11 H
theorem c_isB {u k : Nat} (hu : u < 64) (hk : k < 1024) (H0 : Φ (.inl (some (.int 0))) μ) (H1 : (∀ k', k' / 64 = k / 64 → mkd μ u k' = false) → Φ (.inl (some (.int 1))) μ) : Spec g i_Pl_isBlank 0 [.ref 65, .int (nI u), .int (nI k)] μ Φ := by
  refine spi o_Pl_isBlank rfl (v_Pl_isBlank_0 ?_)
  rw [pidx hu hk, nx_nI (by omega), lcm0]
  refine ⟨vp_in_nI (by omega) (by decide), fun h => z01 H0, fun h => z11 (H1 fun k' hk' => ?_)⟩
  unfold mkd
  rw [hk', h, bl_0]
theorem mkd_set {u k : Nat} (hu : u < 64) (hk : k < 1024) {x : Int64} {u' k' : Nat} (hu' : u' < 64) (hk' : k' < 1024) : mkd (sL μ 67 (16 * u + k / 64) x) u' k' = if u' = u ∧ k' / 64 = k / 64 then bl x (k' % 64) else mkd μ u' k' := by
  unfold mkd
  rw [rL_L, if_pos rfl]
  by_cases h : u' = u ∧ k' / 64 = k / 64
  · rw [if_pos h, h.1, h.2, updL_s]
  · rw [if_neg h, updL_n (by omega)]
theorem c_mrk {u k : Nat} (hu : u < 64) (hk : k < 1024) (H : ∀ μ', Lz zP67 μ' = Lz zP67 μ → (∀ u' k', u' < 64 → k' < 1024 → mkd μ' u' k' = (mkd μ u' k' || decide (u' = u ∧ k' = k))) → Φ (.inl none) μ') : Spec g i_Pl_mark 0 [.ref 65, .int (nI u), .int (nI k)] μ Φ := by
  refine spi o_Pl_mark rfl (v_Pl_mark_0 ?_)
  rw [pidx hu hk, pmod hk, nx_nI (by omega)]
  refine ⟨vp_in_nI (by omega) (by decide), vp_in_nI (by omega) (by decide), H _ (Lz_L rfl) fun u' k' hu' hk' => ?_⟩
  rw [mkd_set hu hk hu' hk']
  by_cases h : u' = u ∧ k' / 64 = k / 64
  · rw [if_pos h, bl_or, bl_1s (by omega) (by omega), h.1]
    unfold mkd
    rw [h.2]
    congr 1
    by_cases e : k' = k
    · rw [e]; simp
    · rw [decide_eq_false (by omega), decide_eq_false (by omega)]
  · rw [if_neg h, decide_eq_false (by intro e; exact h ⟨e.1, by rw [e.2]⟩), Bool.or_false]
theorem c_umk {u k : Nat} (hu : u < 64) (hk : k < 1024) (H : ∀ μ', Lz zP67 μ' = Lz zP67 μ → (∀ u' k', u' < 64 → k' < 1024 → mkd μ' u' k' = (mkd μ u' k' && !decide (u' = u ∧ k' = k))) → Φ (.inl none) μ') : Spec g i_Pl_unmark 0 [.ref 65, .int (nI u), .int (nI k)] μ Φ := by
  refine spi o_Pl_unmark rfl (v_Pl_unmark_0 ?_)
  rw [pidx hu hk, pmod hk, nx_nI (by omega)]
  refine ⟨vp_in_nI (by omega) (by decide), vp_in_nI (by omega) (by decide), H _ (Lz_L rfl) fun u' k' hu' hk' => ?_⟩
  rw [mkd_set hu hk hu' hk']
  have bm1 : ∀ i, i < 64 → bl (-1) i = true := by decide +kernel
  by_cases h : u' = u ∧ k' / 64 = k / 64
  · rw [if_pos h, bl_and, bl_xor, bl_1s (by omega) (by omega), bm1 _ (by omega), h.1]
    unfold mkd
    rw [h.2]
    congr 1
    by_cases e : k' = k
    · rw [e]; simp
    · rw [decide_eq_false (by omega), decide_eq_false (by omega)]; rfl
  · rw [if_neg h, decide_eq_false (by intro e; exact h ⟨e.1, by rw [e.2]⟩)]; simp
/-- what one can say of a thing in a plan -/
theorem c_sby {p : Nat} {U K : Int32} (hp : p < 32) (hP : PLN w t μ) (H : Φ (.inl (some (.int (if bt K p = true then msk 6 (fun q => lef w t q && !bt U q) else 0)))) μ) : Spec g i_Pl_sayableBy 0 [.ref 65, .int (nI p), .int K, .int U] μ Φ := by
  refine spi o_Pl_sayableBy rfl (v_Pl_sayableBy_0 ⟨fun h => ?_, fun h => ?_⟩)
  · rw [tb0 hp] at h
    rw [if_neg (by rw [h]; decide)] at H; exact H
  · rw [tb0 hp, Bool.not_eq_false] at h
    rw [if_pos h] at H
    have e : mI μ 65 3 &&& (U ^^^ (-1)) = msk 6 (fun q => lef w t q && !bt U q) := by
      apply msk_ext (by omega); intro i hi
      rw [b_and, b_not hi, hP.1, b_msk (by omega) hi, Bool.and_assoc]
    rw [e]; exact H
theorem c_aft {p q : Nat} {K : Int32} (hp : p < 10) (hq : q < 6) (H : Φ (.inl (some (.int (K ||| mI μ 66 (6 * p + q))))) μ) : Spec g i_Pl_afterwards 0 [.ref 65, .int K, .int (nI p), .int (nI q)] μ Φ := by
  refine spi o_Pl_afterwards rfl (v_Pl_afterwards_0 ?_)
  rw [show (6 : Int32) = nI 6 from rfl, pk_mul, nI_add, show p * 6 + q = 6 * p + q by omega, nx_nI (by omega)]
  exact ⟨vp_in_nI (by omega) (by decide), H⟩
/-- a set of six bits, moved until none is left -/
theorem msk6_sh {f : Nat → Bool} {q : Nat} (hq : q < 6) : (msk 6 f >>> (nI q &&& 31)) = 0 ↔ ∀ i, q ≤ i → i < 6 → f i = false := by
  constructor
  · intro h i h1 h2
    have := congrArg (fun x => bt x (i - q)) h
    rw [b_sshr q (by omega) _ (by omega), if_pos (by omega), b_0, b_msk (by omega) (by omega), show q + (i - q) = i by omega] at this
    simpa [h2] using this
  · intro h
    apply b_ext; intro i hi
    rw [b_sshr q (by omega) _ hi, b_0]
    split
    · rw [b_msk (by omega) (by omega)]
      by_cases e : q + i < 6
      · rw [h _ (by omega) e]; simp
      · simp [e]
    · rw [b_msk (by omega) (by omega)]; simp
theorem prs_b (p10 : pe w ≤ 10) {i : Nat} (hi : i < 32) : bt (prs w) i = true ↔ i < pe w ∧ her w i = true := by
  unfold prs
  rw [b_msk (by omega) hi]; simp
theorem tkm_b (p10 : pe w ≤ 10) {p q i : Nat} (hi : i < 32) (h : bt (tkm w p t q) i = true) : bt (prs w) i = true := by
  unfold tkm at h
  rw [b_msk (by omega) hi] at h
  simp only [Bool.and_eq_true, decide_eq_true_eq] at h
  unfold hrfT at h
  exact (prs_b p10 hi).mpr ⟨h.1, (tk0_here (of_decide_eq_true h.2)).1⟩
end PLC
def usf (w : WD) (t u k p q : Nat) : Bool := okS w t (nI u) (nI k) p q && !decide (nK w t (nI k) p q = nI k)
def uq (u q : Nat) : Nat := num (nU (nI u) q)
def kp (w : WD) (t k p q : Nat) : Nat := num (nK w t (nI k) p q)
section PLD
variable {w : WD} {t : Nat}
theorem uq_nI (u q : Nat) : nI (uq u q) = nU (nI u) q := nI_num _
theorem kp_nI (k p q : Nat) : nI (kp w t k p q) = nK w t (nI k) p q := nI_num _
theorem uq_lt {u q : Nat} (hu : u < 64) (hq : q < 6) : uq u q < 64 := by
  refine num_lt (n := 6) (by omega) fun i h1 h2 => ?_
  rw [b_nU (by omega) h2, b_nI_lt (n := 6) hu h1 h2, decide_eq_false (by omega)]; rfl
theorem sub_k {k : Nat} (p10 : pe w ≤ 10) (hs : subm (nI k) (prs w) = true) {i : Nat} (h1 : 10 ≤ i) (h2 : i < 32) : bt (nI k) i = false := by
  cases hb : bt (nI k) i with
  | false => rfl
  | true => have := (prs_b p10 h2).mp (subm_b.mp hs i h2 hb); omega
theorem kp_sub {k p q : Nat} (p10 : pe w ≤ 10) (hs : subm (nI k) (prs w) = true) : subm (nI (kp w t k p q)) (prs w) = true := by
  rw [kp_nI]
  refine subm_b.mpr fun i hi h => ?_
  unfold nK at h
  rw [b_or, Bool.or_eq_true] at h
  exact h.elim (subm_b.mp hs i hi) (tkm_b p10 hi)
theorem kp_lt {k p q : Nat} (p10 : pe w ≤ 10) (hs : subm (nI k) (prs w) = true) : kp w t k p q < 1024 :=
  num_lt (n := 10) (by omega) fun i h1 h2 => by
    rw [← kp_nI (w := w) (t := t) k p q]
    exact sub_k p10 (kp_sub p10 hs) h1 h2
theorem okS_p {U : Int32} {k p q : Nat} (p10 : pe w ≤ 10) (hs : subm (nI k) (prs w) = true) (hp : p < 32) (h : okS w t U (nI k) p q = true) : p < pe w :=
  ((prs_b p10 hp).mp (subm_b.mp hs p hp (okS_b.mp h).1)).1
theorem lef_wo {q : Nat} (h : lef w t q = true) : q < wo w t := by
  unfold lef at h
  simp only [Bool.and_eq_true, decide_eq_true_eq] at h
  exact h.1
end PLD
