/-! the fewest sayings by which all know a thing: pure -/
def lsQ (ok : Nat → Bool) (v : Nat → Nat) (b : Nat) : Nat → Nat
  | 0 => b
  | q + 1 => if ok q = true then min (lsQ ok v b q) (v q) else lsQ ok v b q
def lsP (ok : Nat → Nat → Bool) (v : Nat → Nat → Nat) : Nat → Nat
  | 0 => 99
  | p + 1 => lsQ (ok p) (v p) (lsP ok v p) 6
theorem min_le2 {a b x : Nat} : min a b ≤ x ↔ a ≤ x ∨ b ≤ x := by omega
theorem lsQ_le {ok : Nat → Bool} {v : Nat → Nat} {b x : Nat} : ∀ n, lsQ ok v b n ≤ x ↔ b ≤ x ∨ ∃ q, q < n ∧ ok q = true ∧ v q ≤ x := by
  intro n
  induction n with
  | zero => exact ⟨fun h => Or.inl h, fun h => h.elim id fun ⟨q, h, _⟩ => absurd h (Nat.not_lt_zero _)⟩
  | succ n ih =>
    unfold lsQ
    by_cases hc : ok n = true
    · rw [if_pos hc, min_le2, ih]
      constructor
      · rintro ((h | ⟨q, h1, h2, h3⟩) | h)
        · exact Or.inl h
        · exact Or.inr ⟨q, by omega, h2, h3⟩
        · exact Or.inr ⟨n, by omega, hc, h⟩
      · rintro (h | ⟨q, h1, h2, h3⟩)
        · exact Or.inl (Or.inl h)
        · by_cases e : q = n
          · rw [e] at h3; exact Or.inr h3
          · exact Or.inl (Or.inr ⟨q, by omega, h2, h3⟩)
    · rw [if_neg hc, ih]
      constructor
      · rintro (h | ⟨q, h1, h2, h3⟩)
        · exact Or.inl h
        · exact Or.inr ⟨q, by omega, h2, h3⟩
      · rintro (h | ⟨q, h1, h2, h3⟩)
        · exact Or.inl h
        · by_cases e : q = n
          · rw [e] at h2; exact absurd h2 hc
          · exact Or.inr ⟨q, by omega, h2, h3⟩
theorem lsP_le {ok : Nat → Nat → Bool} {v : Nat → Nat → Nat} {x : Nat} : ∀ n, lsP ok v n ≤ x ↔ 99 ≤ x ∨ ∃ p q, p < n ∧ q < 6 ∧ ok p q = true ∧ v p q ≤ x := by
  intro n
  induction n with
  | zero => exact ⟨fun h => Or.inl h, fun h => h.elim id fun ⟨p, q, h, _⟩ => absurd h (Nat.not_lt_zero _)⟩
  | succ n ih =>
    show lsQ (ok n) (v n) (lsP ok v n) 6 ≤ x ↔ _
    rw [lsQ_le, ih]
    constructor
    · rintro ((h | ⟨p, q, h1, h2, h3, h4⟩) | ⟨q, h1, h2, h3⟩)
      · exact Or.inl h
      · exact Or.inr ⟨p, q, by omega, h2, h3, h4⟩
      · exact Or.inr ⟨n, q, by omega, h1, h2, h3⟩
    · rintro (h | ⟨p, q, h1, h2, h3, h4⟩)
      · exact Or.inl (Or.inl h)
      · by_cases e : p = n
        · rw [e] at h3 h4; exact Or.inr ⟨q, h2, h3, h4⟩
        · exact Or.inl (Or.inr ⟨p, q, by omega, h2, h3, h4⟩)
theorem lsQ_cg {ok ok' : Nat → Bool} {v v' : Nat → Nat} {b : Nat} : ∀ n, (∀ q, q < n → ok q = ok' q) → (∀ q, q < n → ok q = true → v q = v' q) → lsQ ok v b n = lsQ ok' v' b n := by
  intro n
  induction n with
  | zero => intro _ _; rfl
  | succ n ih =>
    intro h1 h2
    unfold lsQ
    rw [ih (fun q hq => h1 q (by omega)) (fun q hq => h2 q (by omega)), ← h1 n (by omega)]
    by_cases hc : ok n = true
    · rw [if_pos hc, if_pos hc, h2 n (by omega) hc]
    · rw [if_neg hc, if_neg hc]
theorem lsP_cg {ok ok' : Nat → Nat → Bool} {v v' : Nat → Nat → Nat} : ∀ n, (∀ p q, p < n → q < 6 → ok p q = ok' p q) → (∀ p q, p < n → q < 6 → ok p q = true → v p q = v' p q) → lsP ok v n = lsP ok' v' n := by
  intro n
  induction n with
  | zero => intro _ _; rfl
  | succ n ih =>
    intro h1 h2
    show lsQ (ok n) (v n) (lsP ok v n) 6 = lsQ (ok' n) (v' n) (lsP ok' v' n) 6
    rw [ih (fun p q hp => h1 p q (by omega)) (fun p q hp => h2 p q (by omega))]
    exact lsQ_cg 6 (fun q hq => h1 n q (by omega) hq) (fun q hq => h2 n q (by omega) hq)
theorem lsP_99 {ok : Nat → Nat → Bool} {v : Nat → Nat → Nat} (n : Nat) : lsP ok v n ≤ 99 := (lsP_le n).mpr (Or.inl (Nat.le_refl _))
/-! who is there; a saying of a plan -/
def prs (w : WD) : Int32 := msk (pe w) (her w)
def okS (w : WD) (t : Nat) (U K : Int32) (p q : Nat) : Bool := bt K p && (lef w t q && !bt U q)
def nU (U : Int32) (q : Nat) : Int32 := U ||| ((1 : Int32) <<< (nI q &&& 31))
def nK (w : WD) (t : Nat) (K : Int32) (p q : Nat) : Int32 := K ||| tkm w p t q
def Can (w : WD) (t : Nat) : Nat → Int32 → Int32 → Prop
  | 0, _, K => K = prs w
  | n + 1, U, K => K = prs w ∨ ∃ p q, p < pe w ∧ q < 6 ∧ okS w t U K p q = true ∧ Can w t n (nU U q) (nK w t K p q)
def Fp (w : WD) (t : Nat) : Nat → Int32 → Int32 → Nat
  | 0, _, K => if K = prs w then 0 else 99
  | m + 1, U, K => if K = prs w then 0 else lsP (okS w t U K) (fun p q => 1 + Fp w t m (nU U q) (nK w t K p q)) (pe w)
def fr (w : WD) (t : Nat) (U : Int32) : Nat := ct (fun q => lef w t q && !bt U q) 6
def FdP (w : WD) (t : Nat) (U K : Int32) : Nat := Fp w t (fr w t U) U K
theorem b_nU {U : Int32} {q i : Nat} (hq : q < 32) (hi : i < 32) : bt (nU U q) i = (bt U i || decide (i = q)) := by
  unfold nU; rw [b_or, b_1s hq hi]
theorem ct_one {f h : Nat → Bool} {n j : Nat} (hj : j < n) (hf : f j = false) (e : ∀ i, i < n → h i = (f i || decide (i = j))) : ct h n = ct f n + 1 := by
  induction n with
  | zero => omega
  | succ n ih =>
    by_cases q : j = n
    · have h1 : ct h n = ct f n := ct_cong fun i hi => by rw [e i (by omega), decide_eq_false (by omega), Bool.or_false]
      rw [ct_t (f := h) (by rw [e n (by omega), q, decide_eq_true rfl, Bool.or_true]), ct_f (f := f) (by rw [← q]; exact hf), h1]
    · have := ih (by omega) (fun i hi => e i (by omega))
      cases hn : f n with
      | true => rw [ct_t (f := h) (by rw [e n (by omega), hn]; rfl), ct_t hn, this]
      | false => rw [ct_f (f := h) (by rw [e n (by omega), hn, decide_eq_false (fun e => q e.symm)]; rfl), ct_f hn, this]
section PLP
variable {w : WD} {t : Nat} {U K : Int32}
theorem okS_b {p q : Nat} : okS w t U K p q = true ↔ bt K p = true ∧ lef w t q = true ∧ bt U q = false := by
  unfold okS; simp
theorem fr_lt {q : Nat} (hq : q < 6) (hl : lef w t q = true) (hu : bt U q = false) : fr w t (nU U q) < fr w t U := by
  unfold fr
  refine ct_lt (fun i hi h => ?_) hq (by rw [b_nU (by omega) (by omega)]; simp) (by rw [hl, hu]; rfl)
  rw [b_nU (by omega) (by omega)] at h
  simp only [Bool.and_eq_true, Bool.not_eq_true', Bool.or_eq_false_iff] at h ⊢
  exact ⟨h.1, h.2.1⟩
theorem fr_0 (h : fr w t U = 0) {q : Nat} (hq : q < 6) : ¬ (lef w t q = true ∧ bt U q = false) := fun ⟨h1, h2⟩ => by
  have := fr_lt hq h1 h2; omega
theorem F_99 {m : Nat} : Fp w t m U K ≤ 99 := by
  cases m with
  | zero => unfold Fp; split <;> omega
  | succ m => unfold Fp; split
              · omega
              · exact lsP_99 _
theorem F_can : ∀ {m : Nat} {U K : Int32}, fr w t U ≤ m → ∀ n, n ≤ 98 → (Fp w t m U K ≤ n ↔ Can w t n U K) := by
  intro m
  induction m with
  | zero =>
    intro U K hf n hn
    unfold Fp
    by_cases e : K = prs w
    · rw [if_pos e]
      cases n with
      | zero => exact ⟨fun _ => e, fun _ => Nat.le_refl _⟩
      | succ n => exact ⟨fun _ => Or.inl e, fun _ => Nat.zero_le _⟩
    · rw [if_neg e]
      refine ⟨fun h => absurd h (by omega), fun h => ?_⟩
      cases n with
      | zero => exact absurd h e
      | succ n =>
        rcases h with h | ⟨p, q, h1, h2, h3, h4⟩
        · exact absurd h e
        · have := okS_b.mp h3
          exact absurd ⟨this.2.1, this.2.2⟩ (fr_0 (by omega) h2)
  | succ m ih =>
    intro U K hf n hn
    unfold Fp
    by_cases e : K = prs w
    · rw [if_pos e]
      cases n with
      | zero => exact ⟨fun _ => e, fun _ => Nat.le_refl _⟩
      | succ n => exact ⟨fun _ => Or.inl e, fun _ => Nat.zero_le _⟩
    · rw [if_neg e, lsP_le]
      cases n with
      | zero =>
        refine ⟨fun h => ?_, fun h => absurd h e⟩
        rcases h with h | ⟨p, q, -, -, -, h⟩ <;> omega
      | succ n =>
        constructor
        · rintro (h | ⟨p, q, h1, h2, h3, h4⟩)
          · omega
          · have hb := okS_b.mp h3
            have := fr_lt h2 hb.2.1 hb.2.2
            exact Or.inr ⟨p, q, h1, h2, h3, (ih (by omega) n (by omega)).mp (by omega)⟩
        · rintro (h | ⟨p, q, h1, h2, h3, h4⟩)
          · exact absurd h e
          · have hb := okS_b.mp h3
            have := fr_lt h2 hb.2.1 hb.2.2
            have := (ih (by omega) n (by omega)).mpr h4
            exact Or.inr ⟨p, q, h1, h2, h3, by omega⟩
theorem D_can {n : Nat} (hn : n ≤ 98) : FdP w t U K ≤ n ↔ Can w t n U K := F_can (Nat.le_refl _) n hn
theorem F_fuel {m : Nat} (h : fr w t U ≤ m) : Fp w t m U K = FdP w t U K := by
  have a := F_99 (w := w) (t := t) (U := U) (K := K) (m := m)
  have b := F_99 (w := w) (t := t) (U := U) (K := K) (m := fr w t U)
  have e : ∀ n, n ≤ 98 → (Fp w t m U K ≤ n ↔ FdP w t U K ≤ n) := fun n hn => (F_can h n hn).trans (D_can hn).symm
  have b : FdP w t U K ≤ 99 := b
  by_cases h1 : Fp w t m U K ≤ 98
  · have h2 := (e _ h1).mp (Nat.le_refl _)
    have h3 := (e _ (show FdP w t U K ≤ 98 by omega)).mpr (Nat.le_refl _)
    omega
  · by_cases h2 : FdP w t U K ≤ 98
    · have := (e _ h2).mpr (Nat.le_refl _); omega
    · omega
theorem D_99 : FdP w t U K ≤ 99 := F_99
theorem D_all (h : K = prs w) : FdP w t U K = 0 := by
  have := (D_can (w := w) (t := t) (U := U) (K := K) (n := 0) (by omega)).mpr h; omega
theorem D_0 (h : FdP w t U K = 0) : K = prs w := (D_can (w := w) (t := t) (U := U) (K := K) (n := 0) (by omega)).mp (by omega)
/-- as the reference works it out -/
theorem D_st (h : ¬ K = prs w) : FdP w t U K = lsP (okS w t U K) (fun p q => 1 + FdP w t (nU U q) (nK w t K p q)) (pe w) := by
  have key : Fp w t (fr w t U + 1) U K = FdP w t U K := F_fuel (by omega)
  rw [← key]
  unfold Fp
  rw [if_neg h]
  refine lsP_cg _ (fun _ _ _ _ => rfl) fun p q hp hq ho => ?_
  have hb := okS_b.mp ho
  have := fr_lt hq hb.2.1 hb.2.2
  rw [F_fuel (by omega)]
theorem D_le {p q : Nat} (hp : p < pe w) (hq : q < 6) (ho : okS w t U K p q = true) : FdP w t U K ≤ 1 + FdP w t (nU U q) (nK w t K p q) := by
  have := D_99 (w := w) (t := t) (U := U) (K := K)
  by_cases h : FdP w t (nU U q) (nK w t K p q) ≤ 97
  · have h1 := (D_can (w := w) (t := t) (show FdP w t (nU U q) (nK w t K p q) ≤ 98 by omega)).mp (Nat.le_refl _)
    have := (D_can (w := w) (t := t) (U := U) (K := K) (n := FdP w t (nU U q) (nK w t K p q) + 1) (by omega)).mpr (Or.inr ⟨p, q, hp, hq, ho, h1⟩)
    omega
  · omega
theorem Can_U : ∀ {n : Nat} {U U' K : Int32}, (∀ i, i < 6 → bt U i = true → bt U' i = true) → Can w t n U' K → Can w t n U K := by
  intro n
  induction n with
  | zero => intro U U' K _ h; exact h
  | succ n ih =>
    intro U U' K hu h
    rcases h with h | ⟨p, q, h1, h2, h3, h4⟩
    · exact Or.inl h
    · have hb := okS_b.mp h3
      refine Or.inr ⟨p, q, h1, h2, okS_b.mpr ⟨hb.1, hb.2.1, ?_⟩, ih (fun i hi h => ?_) h4⟩
      · cases hh : bt U q with
        | false => rfl
        | true => rw [hu q h2 hh] at hb; cases hb.2.2
      · rw [b_nU (by omega) (by omega), Bool.or_eq_true] at h ⊢
        exact h.imp (hu i hi) id
/-- the first saying of a shortest plan teaches -/
theorem D_use {q n : Nat} (hq : q < 6) (h : FdP w t (nU U q) K ≤ n) (hn : n ≤ 98) : FdP w t U K ≤ n := by
  have := (D_can hn).mp h
  exact (D_can hn).mpr (Can_U (fun i hi h => by rw [b_nU (by omega) (by omega), h]; rfl) this)
theorem D_pick {n : Nat} (hn : n ≤ 97) (h : FdP w t U K = n + 1) : ∃ p q, p < pe w ∧ q < 6 ∧ okS w t U K p q = true ∧ FdP w t (nU U q) (nK w t K p q) = n ∧ ¬ nK w t K p q = K := by
  have hc := (D_can (w := w) (t := t) (U := U) (K := K) (n := n + 1) (by omega)).mp (by omega)
  rcases hc with h0 | ⟨p, q, h1, h2, h3, h4⟩
  · rw [D_all h0] at h; omega
  · have a := (D_can (by omega)).mpr h4
    have b := D_le h1 h2 h3
    refine ⟨p, q, h1, h2, h3, by omega, fun e => ?_⟩
    rw [e] at a
    have := D_use h2 a (by omega)
    omega
/-- with the right end, a saying teaches -/
theorem D_tea {p q n : Nat} (hq : q < 6) (h : FdP w t U K = n + 1) (hn : n ≤ 97) (h2 : FdP w t (nU U q) (nK w t K p q) = n) : ¬ nK w t K p q = K := fun e => by
  rw [e] at h2
  have := D_use hq (Nat.le_of_eq h2) (by omega)
  omega
end PLP
