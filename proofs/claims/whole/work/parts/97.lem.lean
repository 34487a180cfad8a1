/-! the texts' tokens: the reference -/
def zPt (k j : Nat) : Bool := Nat.beq k 140 && (Nat.beq j 15 || Nat.beq j 17)
def RBf (f : Nat → Int32) (n : Nat) (μ : Mem) : Prop := n ≤ 400 ∧ mI μ 147 = f ∧ mI μ 140 16 = nI n
/-- the reference's point stands ahead of the token that starts at a, blanks between -/
def RK (f : Nat → Int32) (n a : Nat) (μ : Mem) : Prop := RBf f n μ ∧ a ≤ n ∧ tks f n a = a ∧ ∃ q, q ≤ n ∧ mI μ 140 15 = nI q ∧ tks f n q = a
section LEM
variable {g : Gl} {Φ : Out → Mem → Prop} {μ : Mem} {f : Nat → Int32} {n a : Nat}
theorem RBf_z {μ' : Mem} (e : Lz zPt μ' = Lz zPt μ) (h : RBf f n μ) : RBf f n μ' := by
  unfold RBf
  rw [rdI e (k := 147) (fun _ => rfl), rdI1 e (k := 140) (j := 16) rfl]; exact h
theorem RBf_p {x : Int32} (h : RBf f n μ) : RBf f n (sI μ 140 15 x) := h
theorem m_isA {q : Nat} {lo hi : Int32} (hB : RBf f n μ) (hq : q ≤ n) (hp : mI μ 140 15 = nI q) (H : Φ (.inl (some (.int (b2i (decide (q < n) && (decide (lo ≤ f q) && decide (f q ≤ hi))))))) μ) : Spec g i_Mo_isAt 0 [.ref 140, .int lo, .int hi] μ Φ := by
  have n4 := hB.1
  refine spi o_Mo_isAt rfl (v_Mo_isAt_0 ?_)
  rw [hp, hB.2.2, hB.2.1]
  refine ⟨fun h => ?_, fun h => ?_⟩
  · rw [nI_leI (by omega) (by omega)] at h
    rw [decide_eq_false (by omega)] at H; exact z01 H
  · rw [nI_leI (by omega) (by omega)] at h
    rw [decide_eq_true (show q < n by omega), Bool.true_and] at H
    have v := vp_in_nI (N := 400) (show q < 400 by omega) (by decide)
    rw [nx_nI (by omega)]
    refine ⟨v, fun h => ?_, fun h => ⟨v, fun h2 => ?_, fun h2 => ?_⟩⟩
    · rw [decide_eq_false (Int32.not_le.mpr h)] at H; exact z01 H
    · rw [decide_eq_false (Int32.not_le.mpr h2), Bool.and_false] at H; exact z01 H
    · rw [decide_eq_true (Int32.not_lt.mp h), decide_eq_true (Int32.not_lt.mp h2)] at H; exact z11 H
theorem m_blk (hR : RK f n a μ) (H : ∀ μ', Lz zPt μ' = Lz zPt μ → RBf f n μ' → mI μ' 140 15 = nI a → mI μ' 140 17 = nI a → Φ (.inl none) μ') : Spec g i_Mo_blanks 0 [.ref 140] μ Φ := by
  obtain ⟨hB, ha, ht, q, hq, hp, hqa⟩ := hR
  have key : ∀ d q, n ≤ q + d → q ≤ n → tks f n q = a → ∀ μ', Lz zPt μ' = Lz zPt μ → RBf f n μ' → mI μ' 140 15 = nI q → WW g i_Mo_blanks 0 Φ 0 0 0 [(0, .ref 140)] [] μ' := by
    intro d
    have stop : ∀ q, tks f n q = a → ¬ (q < n ∧ f q = 32) → ∀ μ', Lz zPt μ' = Lz zPt μ → RBf f n μ' → mI μ' 140 15 = nI q → Φ (.inl none) (sI μ' 140 17 (mI μ' 140 15)) := by
      intro q hqa hst μ' e hB' hp'
      have : q = a := by rw [← hqa]; exact (rnc_n (by intro ⟨x, y⟩; exact hst ⟨x, of_decide_eq_true y⟩)).symm
      rw [hp', this]
      refine H _ ((Lz_I rfl).trans e) hB' ?_ ?_
      · rw [rI_I, if_pos rfl, upd_n (by decide), hp', this]
      · rw [rI_I, if_pos rfl, upd_s]
    induction d with
    | zero =>
      intro q hd hq hqa μ' e hB' hp'
      refine v_Mo_blanks_0 (m_isA hB' hq hp' (oI ⟨fun _ => stop q hqa (by omega) μ' e hB' hp', fun h => ?_⟩))
      rw [decide_eq_false (by omega)] at h; exact absurd rfl h
    | succ d ih =>
      intro q hd hq hqa μ' e hB' hp'
      refine v_Mo_blanks_0 (m_isA hB' hq hp' (oI ⟨fun h => stop q hqa (fun x => ?_) μ' e hB' hp', fun h => ?_⟩))
      · have := b2i_0.mp h
        rw [decide_eq_true x.1, x.2] at this; cases this
      · have hh := b2i_n0.mp h
        simp only [Bool.and_eq_true, decide_eq_true_eq] at hh
        have h32 : f q = 32 := Int32.le_antisymm hh.2.2 hh.2.1
        refine ih (q + 1) (by omega) (by omega) ?_ _ ((Lz_I rfl).trans e) hB' ?_
        · rw [← hqa]; exact (rnc_y (c := isBl f) hh.1 (decide_eq_true h32)).symm
        · rw [rI_I, if_pos rfl, upd_s, hp', nI_succ]
  exact spi o_Mo_blanks rfl (key n q (by omega) hq hqa μ rfl hB hp)
def enL (f : Nat → Int32) (n a : Nat) : Nat := if kd f n a = 1 then en f n a else a
theorem enL_rn : enL f n a = rnc (isL f) n a := by
  unfold enL
  by_cases h : kd f n a = 1
  · rw [if_pos h]; unfold en; rw [if_pos h]
  · rw [if_neg h]
    refine (rnc_n fun x => h ?_).symm
    unfold kd; rw [if_neg (by omega), if_pos x.2]
theorem m_let (hR : RK f n a μ) (H : ∀ μ', Lz zPt μ' = Lz zPt μ → RBf f n μ' → mI μ' 140 15 = nI (enL f n a) → mI μ' 140 17 = nI a → Φ (.inl none) μ') : Spec g i_Mo_letters 0 [.ref 140] μ Φ := by
  have ha := hR.2.1
  refine spi o_Mo_letters rfl (v_Mo_letters_0 (m_blk hR fun μ1 e1 hB1 hp1 hb1 => oV ?_))
  have n4 := hB1.1
  have key : ∀ d i, n ≤ i + d → i ≤ n → rnc (isL f) n i = rnc (isL f) n a → ∀ μ', Lz zPt μ' = Lz zPt μ → RBf f n μ' → mI μ' 140 15 = nI i → mI μ' 140 17 = nI a → WW g i_Mo_letters 0 Φ 0 0 4 [(0, .ref 140)] [] μ' := by
    intro d
    have stop : ∀ i, rnc (isL f) n i = rnc (isL f) n a → ¬ (i < n ∧ isL f i = true) → ∀ μ', Lz zPt μ' = Lz zPt μ → RBf f n μ' → mI μ' 140 15 = nI i → mI μ' 140 17 = nI a → Φ (.inl none) μ' := by
      intro i hr hst μ' e hB' hp' hb'
      have : i = enL f n a := by rw [enL_rn, ← hr]; exact (rnc_n hst).symm
      exact H μ' e hB' (by rw [← this]; exact hp') hb'
    induction d with
    | zero =>
      intro i hd hi hr μ' e hB' hp' hb'
      refine v_Mo_letters_4 (m_isA hB' hi hp' (oI ⟨fun _ => stop i hr (by omega) μ' e hB' hp' hb', fun h => ?_⟩))
      rw [decide_eq_false (by omega)] at h; exact absurd rfl h
    | succ d ih =>
      intro i hd hi hr μ' e hB' hp' hb'
      refine v_Mo_letters_4 (m_isA hB' hi hp' (oI ⟨fun h => stop i hr (fun x => ?_) μ' e hB' hp' hb', fun h => ?_⟩))
      · have := b2i_0.mp h
        have y := x.2
        unfold isL at y
        rw [decide_eq_true x.1, y] at this; cases this
      · have hh := b2i_n0.mp h
        rw [Bool.and_eq_true, decide_eq_true_eq] at hh
        refine ih (i + 1) (by omega) (by omega) (by rw [← rnc_y (c := isL f) hh.1 hh.2]; exact hr) _ ((Lz_I rfl).trans e) hB' ?_ ?_
        · rw [rI_I, if_pos rfl, upd_s, hp', nI_succ]
        · rw [rI_I, if_pos rfl, upd_n (by decide)]; exact hb'
  exact key n a (by omega) ha rfl μ1 e1 hB1 hp1 hb1
theorem m_isW {e w : Nat} {bs : List Int32} (hB : RBf f n μ) (ha : a ≤ e) (he : e ≤ n) (hp : mI μ 140 15 = nI e) (hb : mI μ 140 17 = nI a) (hW : WOK w bs) (hs : isS w = true) (hl : bs.length < 20)
    (H : Φ (.inl (some (.int (b2i (decide (e - a = bs.length) && decide (∀ k, k < bs.length → f (a + k) = bs.getD k 0)))))) μ) : Spec g i_Mo_isWord 0 [.ref 140, .ref w] μ Φ := by
  have n4 := hB.1
  have toT : ∀ {X : Prop}, X → isT (isS w) X := fun h => by rw [hs]; exact h
  refine spi o_Mo_isWord rfl (v_Mo_isWord_0 (toT ((hW g _ μ).1 (oI ?_))))
  rw [hp, hb, pk_sub ha]
  refine ⟨fun h2 => ?_, fun h2 => ?_⟩
  · rw [decide_eq_false (fun e => h2 (by rw [e]))] at H
    exact v_Mo_isWord_24 ⟨fun _ => ⟨Or.inl rfl, H⟩, fun h => absurd rfl h⟩
  · have hlen := nI_inj (by omega) (by omega) h2
    rw [decide_eq_true hlen, Bool.true_and] at H
    refine zup (P := fun k => (∀ i, i < k → f (a + i) = bs.getD i 0) → WW g i_Mo_isWord 0 Φ 0 0 24 [(0, .ref 140), (1, .ref w), (2, .int 1), (3, .int (nI k))] [] μ) bs.length ?_ ?_ (fun i h => absurd h (Nat.not_lt_zero _))
    · intro hall
      rw [decide_eq_true hall] at H
      exact v_Mo_isWord_24 ⟨fun h => absurd h (by decide), fun _ => toT ((hW g _ μ).1 (oI ⟨fun _ => ⟨Or.inr rfl, H⟩, fun h => absurd (nI_le (Nat.le_refl _) (by omega)) h⟩))⟩
    · intro k hk ih hall
      refine v_Mo_isWord_24 ⟨fun h => absurd h (by decide), fun _ => toT ((hW g _ μ).1 (oI ⟨fun h => absurd h (nI_ge hk (by omega)), fun _ => ?_⟩))⟩
      rw [hb, nI_add, nx_nI (by omega), hB.2.1]
      refine ⟨vp_in_nI (by omega) (by decide), toT ((hW g _ μ).2 k hk (oI ⟨fun h3 => ?_, fun h3 => ?_⟩))⟩
      · rw [decide_eq_false (fun q => h3 (q k hk))] at H
        exact v_Mo_isWord_24 ⟨fun _ => ⟨Or.inl rfl, H⟩, fun h => absurd rfl h⟩
      · rw [← nI_succ]
        refine ih fun i hi => ?_
        by_cases e : i = k
        · rw [e]; exact h3
        · exact hall i (by omega)
theorem wdm_L {bs : List Int32} (hl : 0 < bs.length) : (decide (enL f n a - a = bs.length) && decide (∀ k, k < bs.length → f (a + k) = bs.getD k 0)) = wdm f n a bs := by
  unfold wdm enL
  by_cases h : kd f n a = 1
  · rw [if_pos h, decide_eq_true h, Bool.true_and]
  · rw [if_neg h, decide_eq_false h, decide_eq_false (by omega)]; rfl
theorem enL_b (ha : a ≤ n) : a ≤ enL f n a ∧ enL f n a ≤ n := by
  rw [enL_rn]; exact ⟨rnc_ge n a (by omega), rnc_le n a (by omega) ha⟩
/-- a word right behind 'letters' -/
theorem m_wL {w : Nat} {bs : List Int32} (hB : RBf f n μ) (ha : a ≤ n) (hp : mI μ 140 15 = nI (enL f n a)) (hb : mI μ 140 17 = nI a) (hW : WOK w bs) (hs : isS w = true) (hl : bs.length < 20) (hl0 : 0 < bs.length) (H : Φ (.inl (some (.int (b2i (wdm f n a bs))))) μ) : Spec g i_Mo_isWord 0 [.ref 140, .ref w] μ Φ :=
  m_isW hB (enL_b ha).1 (enL_b ha).2 hp hb hW hs hl (by rw [wdm_L hl0]; exact H)
theorem RK_nx {μ' : Mem} (hB : RBf f n μ') (ha : a ≤ n) (hp : mI μ' 140 15 = nI (en f n a)) : RK f n (nxt f n a) μ' :=
  ⟨hB, nxt_le ha, nxt_tk, en f n a, en_le ha, hp, rfl⟩
theorem RK_at {μ' : Mem} (hB : RBf f n μ') (ha : a ≤ n) (ht : tks f n a = a) (hp : mI μ' 140 15 = nI a) : RK f n a μ' := ⟨hB, ha, ht, a, ha, hp, ht⟩
theorem wdm_1 {bs : List Int32} (h : wdm f n a bs = true) : kd f n a = 1 := by
  unfold wdm at h
  rw [Bool.and_eq_true, decide_eq_true_eq] at h; exact h.1
theorem RK_L {μ' : Mem} {bs : List Int32} (hB : RBf f n μ') (ha : a ≤ n) (hp : mI μ' 140 15 = nI (enL f n a)) (h : wdm f n a bs = true) : RK f n (nxt f n a) μ' := by
  refine RK_nx hB ha ?_
  rw [hp]; unfold enL; rw [if_pos (wdm_1 h)]
theorem m_pas {w : Nat} {bs : List Int32} (hR : RK f n a μ) (hW : WOK w bs) (hs : isS w = true) (hl : bs.length < 20) (hl0 : 0 < bs.length)
    (H0 : wdm f n a bs = false → ∀ μ', Lz zPt μ' = Lz zPt μ → RK f n a μ' → mI μ' 140 17 = nI a → Φ (.inl (some (.int 0))) μ') (H1 : wdm f n a bs = true → ∀ μ', Lz zPt μ' = Lz zPt μ → RK f n (nxt f n a) μ' → Φ (.inl (some (.int 1))) μ') : Spec g i_Mo_passes 0 [.ref 140, .ref w] μ Φ := by
  refine spi o_Mo_passes rfl (v_Mo_passes_0 (m_let hR fun μ1 e1 hB1 hp1 hb1 => oV (m_wL hB1 hR.2.1 hp1 hb1 hW hs hl hl0 (oI ⟨fun h => z01 ?_, fun h => z11 ?_⟩))))
  · rw [hb1]
    refine H0 (b2i_0.mp h) _ ((Lz_I rfl).trans e1) (RK_at hB1 hR.2.1 hR.2.2.1 ?_) ?_
    · rw [rI_I, if_pos rfl, upd_s]
    · rw [rI_I, if_pos rfl, upd_n (by decide)]; exact hb1
  · exact H1 (b2i_n0.mp h) μ1 e1 (RK_L hB1 hR.2.1 hp1 (b2i_n0.mp h))
theorem sgn_is {c : Int32} (hc : (decide (97 ≤ c) && decide (c ≤ 122)) = false ∧ (decide (48 ≤ c) && decide (c ≤ 57)) = false) : sgn f n a c = (decide (a < n) && (decide (c ≤ f a) && decide (f a ≤ c))) := by
  unfold sgn
  by_cases e : f a = c
  · have h1 : isL f a = false := by unfold isL; rw [e]; exact hc.1
    have h2 : isD f a = false := by unfold isD; rw [e]; exact hc.2
    rw [decide_eq_true e, e, decide_eq_true (Int32.le_refl c)]
    simp only [Bool.and_true]
    by_cases q : n ≤ a
    · have hk : kd f n a = 0 := if_pos q
      rw [hk, decide_eq_false (show ¬ (0 : Nat) = 3 by decide), decide_eq_false (show ¬ a < n by omega)]
    · have hk : kd f n a = 3 := by unfold kd; rw [if_neg q, if_neg (by rw [h1]; decide), if_neg (by rw [h2]; decide)]
      rw [hk, decide_eq_true (show a < n by omega)]; rfl
  · rw [decide_eq_false e, Bool.and_false]
    by_cases h1 : c ≤ f a
    · rw [decide_eq_true h1, decide_eq_false (fun h2 => e (Int32.le_antisymm h2 h1))]; simp
    · rw [decide_eq_false h1]; simp
theorem sgn_3 {c : Int32} (h : sgn f n a c = true) : kd f n a = 3 := by
  unfold sgn at h
  rw [Bool.and_eq_true, decide_eq_true_eq] at h; exact h.1
theorem m_sgn {c : Int32} (hc : (decide (97 ≤ c) && decide (c ≤ 122)) = false ∧ (decide (48 ≤ c) && decide (c ≤ 57)) = false) (hR : RK f n a μ)
    (H0 : sgn f n a c = false → ∀ μ', Lz zPt μ' = Lz zPt μ → RK f n a μ' → mI μ' 140 17 = nI a → Φ (.inl (some (.int 0))) μ') (H1 : sgn f n a c = true → ∀ μ', Lz zPt μ' = Lz zPt μ → RK f n (nxt f n a) μ' → Φ (.inl (some (.int 1))) μ') : Spec g i_Mo_sign 0 [.ref 140, .int c] μ Φ := by
  refine spi o_Mo_sign rfl (v_Mo_sign_0 (m_blk hR fun μ1 e1 hB1 hp1 hb1 => oV (m_isA hB1 hR.2.1 hp1 (oI ?_))))
  rw [← sgn_is hc]
  refine ⟨fun h => z11 ?_, fun h => z01 ?_⟩
  · refine H1 (b2i_n0.mp h) _ ((Lz_I rfl).trans e1) (RK_nx hB1 hR.2.1 ?_)
    have : en f n a = a + 1 := by unfold en; rw [sgn_3 (b2i_n0.mp h)]; rfl
    rw [rI_I, if_pos rfl, upd_s, hp1, this, nI_succ]
  · exact H0 (b2i_0.mp h) μ1 e1 (RK_at hB1 hR.2.1 hR.2.2.1 hp1) hb1
theorem LD {f : Nat → Int32} {i : Nat} (h : isD f i = true) : isL f i = false := by
  unfold isD at h
  unfold isL
  rw [Bool.and_eq_true, decide_eq_true_eq, decide_eq_true_eq] at h
  rw [decide_eq_false (fun q => absurd (Int32.le_trans q h.2) (by decide))]; rfl
theorem kd_2 : kd f n a = 2 ↔ a < n ∧ isD f a = true := by
  unfold kd
  by_cases q : n ≤ a
  · rw [if_pos q]; exact ⟨fun h => absurd h (by decide), fun h => by omega⟩
  · rw [if_neg q]
    by_cases h1 : isL f a = true
    · rw [if_pos h1]
      refine ⟨fun h => absurd h (by decide), fun h => ?_⟩
      rw [LD h.2] at h1; cases h1
    · rw [if_neg h1]
      by_cases h2 : isD f a = true
      · rw [if_pos h2]; exact ⟨fun _ => ⟨by omega, h2⟩, fun _ => rfl⟩
      · rw [if_neg h2]; exact ⟨fun h => absurd h (by decide), fun h => absurd h.2 h2⟩
theorem enD : (if kd f n a = 2 then en f n a else a) = rnc (isD f) n a := by
  by_cases h : kd f n a = 2
  · rw [if_pos h]; unfold en; rw [h]; rfl
  · rw [if_neg h]
    exact (rnc_n fun x => h (kd_2.mpr x)).symm
theorem m_num {lo hi : Int32} (hR : RK f n a μ) (h999 : hi ≤ 999)
    (H0 : nok f n a lo hi = false → ∀ μ', Lz zPt μ' = Lz zPt μ → RBf f n μ' → mI μ' 140 17 = nI a → Φ (.inl (some (.int (-1)))) μ') (H1 : nok f n a lo hi = true → ∀ μ', Lz zPt μ' = Lz zPt μ → RK f n (nxt f n a) μ' → mI μ' 140 17 = nI a → Φ (.inl (some (.int (nb f n a)))) μ') : Spec g i_Mo_number 0 [.ref 140, .int lo, .int hi] μ Φ := by
  have ha := hR.2.1
  refine spi o_Mo_number rfl (v_Mo_number_0 (m_blk hR fun μ1 e1 hB1 hp1 hb1 => oV ?_))
  have n4 := hB1.1
  have key : ∀ d i, n ≤ i + d → a ≤ i → i ≤ n → rnc (isD f) n i = rnc (isD f) n a → ∀ μ', Lz zPt μ' = Lz zPt μ → RBf f n μ' → mI μ' 140 15 = nI i → mI μ' 140 17 = nI a → WW g i_Mo_number 0 Φ 0 0 6 [(0, .ref 140), (1, .int lo), (2, .int hi), (3, .int (dvI f a (min (i - a) 3)))] [] μ' := by
    intro d
    have stop : ∀ i, a ≤ i → i ≤ n → rnc (isD f) n i = rnc (isD f) n a → ¬ (i < n ∧ isD f i = true) → ∀ μ', Lz zPt μ' = Lz zPt μ → RBf f n μ' → mI μ' 140 15 = nI i → mI μ' 140 17 = nI a →
        (mI μ' 140 15 = mI μ' 140 17 → Φ (.inl (some (.int (-1)))) μ') ∧ (¬ mI μ' 140 15 = mI μ' 140 17 → (3 < mI μ' 140 15 - mI μ' 140 17 → Φ (.inl (some (.int (-1)))) μ') ∧ (¬ 3 < mI μ' 140 15 - mI μ' 140 17 → (dvI f a (min (i - a) 3) < lo → Φ (.inl (some (.int (-1)))) μ') ∧ (¬ dvI f a (min (i - a) 3) < lo → (dvI f a (min (i - a) 3) ≤ hi → Φ (.inl (some (.int (dvI f a (min (i - a) 3))))) μ') ∧ (¬ dvI f a (min (i - a) 3) ≤ hi → Φ (.inl (some (.int (-1)))) μ')))) := by
      intro i hai hi' hr hst μ' e hB' hp' hb'
      have hi2 : i = if kd f n a = 2 then en f n a else a := by rw [enD, ← hr]; exact (rnc_n hst).symm
      have no : nok f n a lo hi = false → Φ (.inl (some (.int (-1)))) μ' := fun h => H0 h μ' e hB' hb'
      rw [hp', hb', pk_sub hai]
      refine ⟨fun h => no ?_, fun h => ?_⟩
      · have hia := nI_inj (by omega) (by omega) h
        unfold nok
        rw [decide_eq_false]; rfl
        intro hk
        rw [if_pos hk] at hi2
        have := en_gt (f := f) (n := n) (a := a) (by omega)
        omega
      · have hk : kd f n a = 2 := by
          by_cases hk : kd f n a = 2
          · exact hk
          · rw [if_neg hk] at hi2; exact absurd (by rw [hi2]) h
        rw [if_pos hk] at hi2
        have hnb : nb f n a = if i - a ≤ 3 then dvI f a (i - a) else 1000 := by unfold nb; rw [if_pos hk, ← hi2]
        refine ⟨fun h3 => no ?_, fun h3 => ?_⟩
        · rw [show (3 : Int32) = nI 3 from rfl, nI_ltI (by omega) (by omega)] at h3
          unfold nok
          rw [hnb, if_neg (by omega), decide_eq_false (fun q => absurd (Int32.le_trans q h999) (by decide) : ¬ (1000 : Int32) ≤ hi)]; simp
        · rw [show (3 : Int32) = nI 3 from rfl, nI_ltI (by omega) (by omega)] at h3
          rw [if_pos (by omega)] at hnb
          rw [show min (i - a) 3 = i - a by omega, ← hnb]
          refine ⟨fun h4 => no ?_, fun h4 => ⟨fun h5 => ?_, fun h5 => no ?_⟩⟩
          · unfold nok; rw [decide_eq_false (Int32.not_le.mpr h4)]; simp
          · refine H1 ?_ μ' e (RK_nx hB' ha (by rw [hp', hi2])) hb'
            unfold nok; rw [decide_eq_true hk, decide_eq_true (Int32.not_lt.mp h4), decide_eq_true h5]; rfl
          · unfold nok; rw [decide_eq_false h5]; simp
    induction d with
    | zero =>
      intro i hd hai hi' hr μ' e hB' hp' hb'
      refine v_Mo_number_6 (m_isA hB' hi' hp' (oI ⟨fun _ => stop i hai hi' hr (by omega) μ' e hB' hp' hb', fun h => ?_⟩))
      rw [decide_eq_false (by omega)] at h; exact absurd rfl h
    | succ d ih =>
      intro i hd hai hi' hr μ' e hB' hp' hb'
      refine v_Mo_number_6 (m_isA hB' hi' hp' (oI ⟨fun h => stop i hai hi' hr (fun x => ?_) μ' e hB' hp' hb', fun h => ?_⟩))
      · have := b2i_0.mp h
        have y := x.2
        unfold isD at y
        rw [decide_eq_true x.1, y] at this; cases this
      · have hh := b2i_n0.mp h
        rw [Bool.and_eq_true, decide_eq_true_eq] at hh
        have hr2 : rnc (isD f) n (i + 1) = rnc (isD f) n a := by rw [← rnc_y (c := isD f) hh.1 hh.2]; exact hr
        have nx := ih (i + 1) (by omega) (by omega) (by omega) hr2 (sI μ' 140 15 (nI (i + 1))) ((Lz_I rfl).trans e) hB' (by rw [rI_I, if_pos rfl, upd_s]) (by rw [rI_I, if_pos rfl, upd_n (by decide)]; exact hb')
        rw [hp', hb', pk_sub hai, ← nI_succ]
        refine ⟨fun h3 => ?_, fun h3 => ⟨vp_in_nI (by omega) (by decide), ?_⟩⟩
        · rw [show (3 : Int32) = nI 3 from rfl, nI_leI (by omega) (by omega)] at h3
          rw [show min (i + 1 - a) 3 = min (i - a) 3 by omega] at nx; exact nx
        · rw [show (3 : Int32) = nI 3 from rfl, nI_leI (by omega) (by omega)] at h3
          rw [show min (i + 1 - a) 3 = (i - a) + 1 by omega] at nx
          rw [show min (i - a) 3 = i - a by omega, nx_nI (by omega), hB'.2.1]
          have hd2 : dvI f a (i - a + 1) = 10 * dvI f a (i - a) + f (a + (i - a)) - 48 := rfl
          rw [hd2, show a + (i - a) = i by omega] at nx; exact nx
  have := key n a (by omega) (Nat.le_refl _) ha rfl μ1 e1 hB1 hp1 hb1
  rw [Nat.sub_self] at this
  exact this
theorem m_fig (hR : RK f n a μ) (H : ∀ μ', Lz zPt μ' = Lz zPt μ → RK f n a μ' → Φ (.inl (some (.int (b2i (decide (kd f n a = 2)))))) μ') : Spec g i_Mo_isFigure 0 [.ref 140] μ Φ := by
  refine spi o_Mo_isFigure rfl (v_Mo_isFigure_0 (m_blk hR fun μ1 e1 hB1 hp1 hb1 => oV (m_isA hB1 hR.2.1 hp1 (oI ⟨b2i_or _, ?_⟩))))
  have := H μ1 e1 (RK_at hB1 hR.2.1 hR.2.2.1 hp1)
  have e2 : decide (kd f n a = 2) = (decide (a < n) && (decide (48 ≤ f a) && decide (f a ≤ 57))) := by
    by_cases h : kd f n a = 2
    · have := kd_2.mp h
      rw [decide_eq_true h, decide_eq_true this.1, Bool.true_and]; exact this.2.symm
    · rw [decide_eq_false h]
      cases hb : (decide (a < n) && (decide (48 ≤ f a) && decide (f a ≤ 57))) with
      | false => rfl
      | true =>
        rw [Bool.and_eq_true, decide_eq_true_eq] at hb
        exact absurd (kd_2.mpr ⟨hb.1, hb.2⟩) h
  rw [e2] at this; exact this
/-- a word, then a number; where it falls, the begin says where -/
theorem m_aft {w : Nat} {bs : List Int32} {lo hi : Int32} (hR : RK f n a μ) (hW : WOK w bs) (hs : isS w = true) (hl : bs.length < 20) (hl0 : 0 < bs.length) (h999 : hi ≤ 999)
    (H0 : wdm f n a bs = false → ∀ μ', Lz zPt μ' = Lz zPt μ → RBf f n μ' → mI μ' 140 17 = nI a → Φ (.inl (some (.int (-1)))) μ')
    (H1 : wdm f n a bs = true → nok f n (nxt f n a) lo hi = false → ∀ μ', Lz zPt μ' = Lz zPt μ → RBf f n μ' → mI μ' 140 17 = nI (nxt f n a) → Φ (.inl (some (.int (-1)))) μ')
    (H2 : wdm f n a bs = true → nok f n (nxt f n a) lo hi = true → ∀ μ', Lz zPt μ' = Lz zPt μ → RK f n (nxt f n (nxt f n a)) μ' → Φ (.inl (some (.int (nb f n (nxt f n a))))) μ') : Spec g i_Mo_after 0 [.ref 140, .ref w, .int lo, .int hi] μ Φ := by
  refine spi o_Mo_after rfl (v_Mo_after_0 (m_let hR fun μ1 e1 hB1 hp1 hb1 => oV (m_wL hB1 hR.2.1 hp1 hb1 hW hs hl hl0 (oI ⟨fun h => H0 (b2i_0.mp h) μ1 e1 hB1 hb1, fun h => ?_⟩))))
  have hw := b2i_n0.mp h
  refine m_num (RK_L hB1 hR.2.1 hp1 hw) h999 (fun h2 μ2 e2 hB2 hb2 => oI (H1 hw h2 μ2 (e2.trans e1) hB2 hb2)) (fun h2 μ2 e2 hR2 _ => oI (H2 hw h2 μ2 (e2.trans e1) hR2))
end LEM
