/-! the texts' tokens; the class's tape -/
def runc (c : Nat → Bool) (n : Nat) : Nat → Nat → Nat
  | 0, p => p
  | d + 1, p => if p < n ∧ c p = true then runc c n d (p + 1) else p
def rnc (c : Nat → Bool) (n p : Nat) : Nat := runc c n (n - p) p
theorem rnc_y {c : Nat → Bool} {n p : Nat} (h : p < n) (hc : c p = true) : rnc c n p = rnc c n (p + 1) := by
  unfold rnc
  obtain ⟨d, hd⟩ : ∃ d, n - p = d + 1 := ⟨n - p - 1, by omega⟩
  rw [hd, show n - (p + 1) = d by omega]
  show (if p < n ∧ c p = true then _ else _) = _
  rw [if_pos ⟨h, hc⟩]
theorem rnc_n {c : Nat → Bool} {n p : Nat} (h : ¬ (p < n ∧ c p = true)) : rnc c n p = p := by
  unfold rnc
  cases n - p with
  | zero => rfl
  | succ d => show (if p < n ∧ c p = true then _ else _) = _; rw [if_neg h]
theorem rnc_ge {c : Nat → Bool} {n : Nat} : ∀ d p, n ≤ p + d → p ≤ rnc c n p := by
  intro d
  induction d with
  | zero => intro p h; rw [rnc_n (by omega)]; exact Nat.le_refl _
  | succ d ih =>
    intro p h
    by_cases q : p < n ∧ c p = true
    · rw [rnc_y q.1 q.2]; have := ih (p + 1) (by omega); omega
    · rw [rnc_n q]; exact Nat.le_refl _
theorem rnc_le {c : Nat → Bool} {n : Nat} : ∀ d p, n ≤ p + d → p ≤ n → rnc c n p ≤ n := by
  intro d
  induction d with
  | zero => intro p h h2; rw [rnc_n (by omega)]; exact h2
  | succ d ih =>
    intro p h h2
    by_cases q : p < n ∧ c p = true
    · rw [rnc_y q.1 q.2]; exact ih (p + 1) (by omega) (by omega)
    · rw [rnc_n q]; exact h2
theorem rnc_end {c : Nat → Bool} {n : Nat} : ∀ d p, n ≤ p + d → ¬ (rnc c n p < n ∧ c (rnc c n p) = true) := by
  intro d
  induction d with
  | zero => intro p h; rw [rnc_n (by omega)]; omega
  | succ d ih =>
    intro p h
    by_cases q : p < n ∧ c p = true
    · rw [rnc_y q.1 q.2]; exact ih (p + 1) (by omega)
    · rw [rnc_n q]; exact q
def isBl (f : Nat → Int32) (i : Nat) : Bool := decide (f i = 32)
def isL (f : Nat → Int32) (i : Nat) : Bool := decide (97 ≤ f i) && decide (f i ≤ 122)
def isD (f : Nat → Int32) (i : Nat) : Bool := decide (48 ≤ f i) && decide (f i ≤ 57)
/-- where the next token starts -/
def tks (f : Nat → Int32) (n p : Nat) : Nat := rnc (isBl f) n p
def kd (f : Nat → Int32) (n a : Nat) : Nat := if n ≤ a then 0 else if isL f a = true then 1 else if isD f a = true then 2 else 3
def en (f : Nat → Int32) (n a : Nat) : Nat := if kd f n a = 1 then rnc (isL f) n a else if kd f n a = 2 then rnc (isD f) n a else if kd f n a = 3 then a + 1 else a
def dvI (f : Nat → Int32) (a : Nat) : Nat → Int32
  | 0 => 0
  | k + 1 => 10 * dvI f a k + f (a + k) - 48
def nb (f : Nat → Int32) (n a : Nat) : Int32 := if kd f n a = 2 then (if en f n a - a ≤ 3 then dvI f a (en f n a - a) else 1000) else 0
def nxt (f : Nat → Int32) (n a : Nat) : Nat := tks f n (en f n a)
def wdm (f : Nat → Int32) (n a : Nat) (bs : List Int32) : Bool := decide (kd f n a = 1) && (decide (en f n a - a = bs.length) && decide (∀ k, k < bs.length → f (a + k) = bs.getD k 0))
def nok (f : Nat → Int32) (n a : Nat) (lo hi : Int32) : Bool := decide (kd f n a = 2) && (decide (lo ≤ nb f n a) && decide (nb f n a ≤ hi))
def sgn (f : Nat → Int32) (n a : Nat) (c : Int32) : Bool := decide (kd f n a = 3) && decide (f a = c)
/-- the class's tape stands at the token that starts at a -/
def TK (f : Nat → Int32) (n a : Nat) (μ : Mem) : Prop := n ≤ 400 ∧ a ≤ n ∧ tks f n a = a ∧ mI μ 2 = f ∧ mI μ 1 1 = nI n ∧ mI μ 1 3 = nI (kd f n a) ∧ mI μ 1 4 = nI a ∧ mI μ 1 5 = nI (en f n a) ∧ mI μ 1 6 = nb f n a
def zTk (k j : Nat) : Bool := Nat.beq k 1 && Nat.ble 3 j
section LEX
variable {f : Nat → Int32} {n a : Nat}
theorem tks_ge (p : Nat) : p ≤ tks f n p := rnc_ge n p (by omega)
theorem tks_le {p : Nat} (h : p ≤ n) : tks f n p ≤ n := rnc_le n p (by omega) h
theorem tks_tk (p : Nat) : tks f n (tks f n p) = tks f n p := by
  unfold tks
  exact rnc_n (rnc_end n p (by omega))
theorem kd_3 : kd f n a ≤ 3 := by
  unfold kd
  split
  · omega
  · split
    · omega
    · split <;> omega
theorem en_ge : a ≤ en f n a := by
  unfold en
  split
  · exact rnc_ge n a (by omega)
  · split
    · exact rnc_ge n a (by omega)
    · split <;> omega
theorem kd_n0 (h : ¬ kd f n a = 0) : a < n := by
  unfold kd at h
  by_cases q : n ≤ a
  · rw [if_pos q] at h; exact absurd rfl h
  · omega
theorem kd_0 (h : kd f n a = 0) : n ≤ a := by
  unfold kd at h
  by_cases q : n ≤ a
  · exact q
  · rw [if_neg q] at h
    split at h
    · cases h
    · split at h <;> cases h
theorem en_le (h : a ≤ n) : en f n a ≤ n := by
  unfold en
  split
  · exact rnc_le n a (by omega) h
  · split
    · exact rnc_le n a (by omega) h
    · split
      · rename_i q; have := kd_n0 (f := f) (n := n) (a := a) (by omega); omega
      · exact h
theorem en_gt (h : ¬ kd f n a = 0) : a < en f n a := by
  have hn := kd_n0 h
  unfold en
  split
  · rename_i q
    have hl : isL f a = true := by
      unfold kd at q
      rw [if_neg (by omega)] at q
      split at q
      · assumption
      · split at q <;> cases q
    rw [rnc_y hn hl]; have := rnc_ge (c := isL f) (n := n) n (a + 1) (by omega); omega
  · split
    · rename_i q0 q
      have hl : isD f a = true := by
        unfold kd at q
        rw [if_neg (by omega)] at q
        split at q
        · cases q
        · split at q
          · assumption
          · cases q
      rw [rnc_y hn hl]; have := rnc_ge (c := isD f) (n := n) n (a + 1) (by omega); omega
    · split
      · omega
      · have := kd_3 (f := f) (n := n) (a := a); omega
theorem nxt_le (h : a ≤ n) : nxt f n a ≤ n := tks_le (en_le h)
theorem nxt_gt (h : ¬ kd f n a = 0) : a < nxt f n a := Nat.lt_of_lt_of_le (en_gt h) (tks_ge _)
theorem nxt_tk : tks f n (nxt f n a) = nxt f n a := tks_tk _
end LEX
section TAPE
variable {g : Gl} {Φ : Out → Mem → Prop} {μ : Mem} {f : Nat → Int32} {n a : Nat}
theorem c_wth {i : Nat} {lo hi : Int32} (hi4 : i < 400) (hf : mI μ 2 = f) (H : Φ (.inl (some (.int (b2i (decide (lo ≤ f i) && decide (f i ≤ hi)))))) μ) : Spec g i_Tape_isWithin 0 [.ref 1, .int (nI i), .int lo, .int hi] μ Φ := by
  refine spi o_Tape_isWithin rfl (v_Tape_isWithin_0 ?_)
  rw [nx_nI (by omega), hf]
  have v := vp_in_nI (N := 400) hi4 (by decide)
  refine ⟨v, fun h => ?_, fun h => ⟨v, fun h2 => ?_, fun h2 => ?_⟩⟩
  · rw [decide_eq_false (Int32.not_le.mpr h)] at H; exact z01 H
  · rw [decide_eq_false (Int32.not_le.mpr h2), Bool.and_false] at H; exact z01 H
  · rw [decide_eq_true (Int32.not_lt.mp h), decide_eq_true (Int32.not_lt.mp h2)] at H; exact z11 H
theorem c_next {p : Nat} (hn : n ≤ 400) (hp : p ≤ n) (hf : mI μ 2 = f) (h1 : mI μ 1 1 = nI n) (h5 : mI μ 1 5 = nI p) (H : ∀ μ', Lz zTk μ' = Lz zTk μ → TK f n (tks f n p) μ' → Φ (.inl none) μ') : Spec g i_Tape_next 0 [.ref 1] μ Φ := by
  refine spi o_Tape_next rfl (v_Tape_next_0 ?_)
  rw [h5]
  have key : ∀ d q, n ≤ q + d → q ≤ n → tks f n q = tks f n p → WW g i_Tape_next 0 Φ 0 0 5 [(0, .ref 1), (1, .int (nI q))] [] μ := by
    intro d
    have fin : ∀ q, q ≤ n → tks f n q = tks f n p → ¬ (q < n ∧ f q = 32) →
        (nI q < mI μ 1 1 → Spec g i_Tape_isWithin 0 [.ref 1, .int (nI q), .int 97, .int 122] (sI (sI μ 1 4 (nI q)) 1 6 0) (onI (fun r2 μ1 => (r2 = 0 → Spec g i_Tape_isWithin 0 [.ref 1, .int (nI q), .int 48, .int 57] μ1 (onI (fun r4 μ3 => (r4 = 0 → Φ (.inl none) (sI (sI μ3 1 3 3) 1 5 (nI q + 1))) ∧ (¬ r4 = 0 → WW g i_Tape_next 0 Φ 0 0 116 [(0, .ref 1), (1, .int (nI q))] [] (sI μ3 1 3 2))) (fun e μ3 => rtM i_Tape_next Φ (.inr e) 0 0 μ3))) ∧ (¬ r2 = 0 → WW g i_Tape_next 0 Φ 0 0 73 [(0, .ref 1), (1, .int (nI q))] [] (sI μ1 1 3 1))) (fun e μ1 => rtM i_Tape_next Φ (.inr e) 0 0 μ1))) ∧ (¬ nI q < mI μ 1 1 → Φ (.inl none) (sI (sI (sI (sI μ 1 4 (nI q)) 1 6 0) 1 3 0) 1 5 (nI q))) := by
      intro q hq ht hb
      have hs : tks f n q = q := rnc_n (by intro ⟨x, y⟩; exact hb ⟨x, of_decide_eq_true y⟩)
      rw [hs] at ht
      rw [h1]
      have z2 : Lz zTk (sI (sI μ 1 4 (nI q)) 1 6 0) = Lz zTk μ := (Lz_I rfl).trans (Lz_I rfl)
      have g2 : mI (sI (sI μ 1 4 (nI q)) 1 6 0) 2 = f := hf
      have g1 : mI (sI (sI μ 1 4 (nI q)) 1 6 0) 1 1 = nI n := h1
      have g4 : mI (sI (sI μ 1 4 (nI q)) 1 6 0) 1 4 = nI q := rfl
      have g6 : mI (sI (sI μ 1 4 (nI q)) 1 6 0) 1 6 = 0 := rfl
      have e0 : Φ (.inl none) (sI (sI (sI (sI μ 1 4 (nI q)) 1 6 0) 1 3 0) 1 5 (nI q)) ∨ q < n := by
        by_cases hlt : q < n
        · exact Or.inr hlt
        · refine Or.inl (H _ ((Lz_I rfl).trans ((Lz_I rfl).trans z2)) ?_)
          rw [← ht]
          have hk : kd f n q = 0 := if_pos (by omega)
          have he : en f n q = q := by unfold en; rw [hk]; rfl
          have hb : nb f n q = 0 := by unfold nb; rw [hk]; rfl
          refine ⟨hn, hq, hs, hf, h1, by rw [hk]; rfl, rfl, by rw [he]; rfl, by rw [hb]; rfl⟩
      generalize (sI (sI μ 1 4 (nI q)) 1 6 0) = μ2 at *
      refine ⟨fun hlt => ?_, fun hge => ?_⟩
      · rw [nI_ltI (by omega) (by omega)] at hlt
        refine c_wth (by omega) g2 (oI ⟨fun h => ?_, fun h => ?_⟩)
        · have nl : ¬ isL f q = true := fun e => by unfold isL at e; rw [e] at h; cases h
          refine c_wth (by omega) g2 (oI ⟨fun h => ?_, fun h => ?_⟩)
          · have nd : ¬ isD f q = true := fun e => by unfold isD at e; rw [e] at h; cases h
            have hk : kd f n q = 3 := by unfold kd; rw [if_neg (by omega), if_neg nl, if_neg nd]
            refine H _ ((Lz_I rfl).trans ((Lz_I rfl).trans z2)) ?_
            rw [← ht]
            have he : en f n q = q + 1 := by unfold en; rw [hk]; rfl
            have hb : nb f n q = 0 := by unfold nb; rw [hk]; rfl
            refine ⟨hn, hq, hs, g2, g1, by rw [hk]; rfl, g4, by rw [he, nI_succ]; rfl, by rw [hb]; exact g6⟩
          · have yd : isD f q = true := b2i_n0.mp h
            have hk : kd f n q = 2 := by unfold kd; rw [if_neg (by omega), if_neg nl, if_pos yd]
            have he : en f n q = rnc (isD f) n q := by unfold en; rw [hk]; rfl
            have key : ∀ d i, n ≤ i + d → q ≤ i → i ≤ n → rnc (isD f) n i = rnc (isD f) n q → ∀ μ', Lz zTk μ' = Lz zTk μ → mI μ' 2 = f → mI μ' 1 1 = nI n → mI μ' 1 3 = 2 → mI μ' 1 4 = nI q → mI μ' 1 6 = (if i - q ≤ 3 then dvI f q (i - q) else 1000) → WW g i_Tape_next 0 Φ 0 0 116 [(0, .ref 1), (1, .int (nI i))] [] μ' := by
              intro d
              have stop : ∀ i, q ≤ i → i ≤ n → rnc (isD f) n i = rnc (isD f) n q → ¬ (i < n ∧ isD f i = true) → ∀ μ', Lz zTk μ' = Lz zTk μ → mI μ' 2 = f → mI μ' 1 1 = nI n → mI μ' 1 3 = 2 → mI μ' 1 4 = nI q → mI μ' 1 6 = (if i - q ≤ 3 then dvI f q (i - q) else 1000) → Φ (.inl none) (sI μ' 1 5 (nI i)) := by
                intro i hqi hi hr hst μ' e a2 a1 a3 a4 a6
                refine H _ ((Lz_I rfl).trans e) ?_
                rw [← ht]
                have hei : en f n q = i := by rw [he, ← hr]; exact rnc_n hst
                refine ⟨hn, hq, hs, a2, a1, by rw [hk]; exact a3, a4, by rw [hei]; rfl, ?_⟩
                show mI μ' 1 6 = _
                rw [a6]; unfold nb; rw [hk, if_pos rfl, hei]
              induction d with
              | zero =>
                intro i hd hqi hi hr μ' e a2 a1 a3 a4 a6
                refine v_Tape_next_116 ⟨fun _ => stop i hqi hi hr (by omega) μ' e a2 a1 a3 a4 a6, fun h => absurd (by rw [a1]; exact nI_le (by omega) (by omega)) h⟩
              | succ d ih =>
                intro i hd hqi hi hr μ' e a2 a1 a3 a4 a6
                refine v_Tape_next_116 ⟨fun h => stop i hqi hi hr ?_ μ' e a2 a1 a3 a4 a6, fun h => ?_⟩
                · rw [a1, nI_leI (by omega) (by omega)] at h; omega
                · rw [a1, nI_leI (by omega) (by omega)] at h
                  refine c_wth (by omega) a2 (oI ⟨fun h2 => stop i hqi hi hr (fun x => ?_) μ' e a2 a1 a3 a4 a6, fun h2 => ?_⟩)
                  · have := b2i_0.mp h2
                    have y := x.2
                    unfold isD at y
                    rw [this] at y; cases y
                  · have yi : isD f i = true := b2i_n0.mp h2
                    have hr2 : rnc (isD f) n (i + 1) = rnc (isD f) n q := by rw [← rnc_y (by omega) yi]; exact hr
                    rw [a4, pk_sub hqi, ← nI_succ]
                    refine ⟨fun h3 => ?_, fun h3 => ⟨vp_in_nI (by omega) (by decide), ?_⟩⟩
                    · rw [show (3 : Int32) = nI 3 from rfl, nI_leI (by omega) (by omega)] at h3
                      refine ih (i + 1) (by omega) (by omega) (by omega) hr2 _ ((Lz_I rfl).trans e) a2 a1 a3 a4 ?_
                      rw [if_neg (by omega)]; rfl
                    · rw [show (3 : Int32) = nI 3 from rfl, nI_leI (by omega) (by omega)] at h3
                      refine ih (i + 1) (by omega) (by omega) (by omega) hr2 _ ((Lz_I rfl).trans e) a2 a1 a3 a4 ?_
                      rw [if_pos (by omega), rI_I, if_pos rfl, upd_s, a6, if_pos (by omega), nx_nI (by omega), a2, show i + 1 - q = (i - q) + 1 by omega]
                      show _ = 10 * dvI f q (i - q) + f (q + (i - q)) - 48
                      rw [show q + (i - q) = i by omega]
            exact key n q (by omega) (Nat.le_refl _) hq rfl _ ((Lz_I rfl).trans z2) g2 g1 rfl g4 (by rw [Nat.sub_self, if_pos (by omega)]; exact g6)
        · have yl : isL f q = true := b2i_n0.mp h
          have hk : kd f n q = 1 := by unfold kd; rw [if_neg (by omega), if_pos yl]
          have he : en f n q = rnc (isL f) n q := by unfold en; rw [hk]; rfl
          have hb : nb f n q = 0 := by unfold nb; rw [hk]; rfl
          have z3 : Lz zTk (sI μ2 1 3 1) = Lz zTk μ := (Lz_I rfl).trans z2
          have g3 : mI (sI μ2 1 3 1) 1 3 = 1 := rfl
          have g2 : mI (sI μ2 1 3 1) 2 = f := g2
          have g1 : mI (sI μ2 1 3 1) 1 1 = nI n := g1
          have g4 : mI (sI μ2 1 3 1) 1 4 = nI q := g4
          have g6 : mI (sI μ2 1 3 1) 1 6 = 0 := g6
          generalize (sI μ2 1 3 1) = μ3 at *
          have stop : ∀ i, i ≤ n → rnc (isL f) n i = rnc (isL f) n q → ¬ (i < n ∧ isL f i = true) → Φ (.inl none) (sI μ3 1 5 (nI i)) := by
            intro i hi hr hst
            refine H _ ((Lz_I rfl).trans z3) ?_
            rw [← ht]
            have hei : en f n q = i := by rw [he, ← hr]; exact rnc_n hst
            exact ⟨hn, hq, hs, g2, g1, by rw [hk]; exact g3, g4, by rw [hei]; rfl, by rw [hb]; exact g6⟩
          have key : ∀ d i, n ≤ i + d → i ≤ n → rnc (isL f) n i = rnc (isL f) n q → WW g i_Tape_next 0 Φ 0 0 73 [(0, .ref 1), (1, .int (nI i))] [] μ3 := by
            intro d
            induction d with
            | zero =>
              intro i hd hi hr
              exact v_Tape_next_73 ⟨fun _ => stop i hi hr (by omega), fun h => absurd (by rw [g1]; exact nI_le (by omega) (by omega)) h⟩
            | succ d ih =>
              intro i hd hi hr
              refine v_Tape_next_73 ⟨fun h => stop i hi hr ?_, fun h => ?_⟩
              · rw [g1, nI_leI (by omega) (by omega)] at h; omega
              · rw [g1, nI_leI (by omega) (by omega)] at h
                refine c_wth (by omega) g2 (oI ⟨fun h2 => stop i hi hr (fun x => ?_), fun h2 => ?_⟩)
                · have := b2i_0.mp h2
                  have y := x.2
                  unfold isL at y
                  rw [this] at y; cases y
                · have yi : isL f i = true := b2i_n0.mp h2
                  rw [← nI_succ]
                  exact ih (i + 1) (by omega) (by omega) (by rw [← rnc_y (by omega) yi]; exact hr)
          exact key n q (by omega) hq rfl
      · rw [nI_ltI (by omega) (by omega)] at hge
        exact e0.elim id fun h => absurd h hge
    induction d with
    | zero =>
      intro q hd hq ht
      exact v_Tape_next_5 ⟨fun _ => fin q hq ht (by omega), fun h => absurd (by rw [h1]; exact nI_le (by omega) (by omega)) h⟩
    | succ d ih =>
      intro q hd hq ht
      refine v_Tape_next_5 ⟨fun h => fin q hq ht ?_, fun h => ?_⟩
      · rw [h1, nI_leI (by omega) (by omega)] at h; omega
      · rw [h1, nI_leI (by omega) (by omega)] at h
        rw [nx_nI (by omega), hf]
        refine ⟨vp_in_nI (by omega) (by decide), fun h2 => fin q hq ht (fun x => h2 x.2), fun h2 => ?_⟩
        rw [← nI_succ]
        refine ih (q + 1) (by omega) (by omega) ?_
        rw [← ht]; exact (rnc_y (c := isBl f) (by omega) (decide_eq_true h2)).symm
  exact key n p (by omega) hp rfl
theorem c_nx (hT : TK f n a μ) (H : ∀ μ', Lz zTk μ' = Lz zTk μ → TK f n (nxt f n a) μ' → Φ (.inl none) μ') : Spec g i_Tape_next 0 [.ref 1] μ Φ :=
  c_next hT.1 (en_le hT.2.1) hT.2.2.2.1 hT.2.2.2.2.1 hT.2.2.2.2.2.2.2.1 H
theorem c_open (hn : n ≤ 400) (hf : mI μ 2 = f) (h1 : mI μ 1 1 = nI n) (H : ∀ μ', Lz zTk μ' = Lz zTk (sI μ 1 2 (-1)) → TK f n (tks f n 0) μ' → Φ (.inl none) μ') : Spec g i_Tape_open 0 [.ref 1] μ Φ :=
  spi o_Tape_open rfl (v_Tape_open_0 (c_next (p := 0) hn (Nat.zero_le _) hf h1 rfl fun μ' e h => oV (H μ' (e.trans (Lz_I rfl)) h)))
theorem c_aE (hT : TK f n a μ) (H : Φ (.inl (some (.int (b2i (decide (kd f n a = 0)))))) μ) : Spec g i_Tape_atEnd 0 [.ref 1] μ Φ := by
  have k3 := kd_3 (f := f) (n := n) (a := a)
  refine spi o_Tape_atEnd rfl (v_Tape_atEnd_0 ?_)
  rw [hT.2.2.2.2.2.1]
  refine ⟨fun h => ?_, fun h => ?_⟩
  · rw [decide_eq_false (fun e => h (by rw [e]; rfl))] at H; exact z01 H
  · rw [decide_eq_true (nI_inj (b := 0) (by omega) (by omega) h)] at H; exact z11 H
theorem c_aN (hT : TK f n a μ) {lo hi : Int32} (H : Φ (.inl (some (.int (b2i (nok f n a lo hi))))) μ) : Spec g i_Tape_atNumber 0 [.ref 1, .int lo, .int hi] μ Φ := by
  have k3 := kd_3 (f := f) (n := n) (a := a)
  refine spi o_Tape_atNumber rfl (v_Tape_atNumber_0 ?_)
  unfold nok at H
  rw [hT.2.2.2.2.2.1, hT.2.2.2.2.2.2.2.2]
  refine ⟨fun h => ?_, fun h => ?_⟩
  · rw [decide_eq_false (fun e => h (by rw [e]; rfl))] at H; exact z01 H
  · rw [decide_eq_true (nI_inj (b := 2) (by omega) (by omega) h)] at H
    refine ⟨fun h2 => ?_, fun h2 => ⟨fun h3 => ?_, fun h3 => ?_⟩⟩
    · rw [decide_eq_false (Int32.not_le.mpr h2)] at H; exact z01 H
    · rw [decide_eq_false (Int32.not_le.mpr h3), Bool.and_false] at H; exact z01 H
    · rw [decide_eq_true (Int32.not_lt.mp h2), decide_eq_true (Int32.not_lt.mp h3)] at H; exact z11 H
theorem c_aS (hT : TK f n a μ) {c : Int32} (H : Φ (.inl (some (.int (b2i (sgn f n a c))))) μ) : Spec g i_Tape_atSign 0 [.ref 1, .int c] μ Φ := by
  have k3 := kd_3 (f := f) (n := n) (a := a)
  refine spi o_Tape_atSign rfl (v_Tape_atSign_0 ?_)
  unfold sgn at H
  rw [hT.2.2.2.2.2.1, hT.2.2.2.2.2.2.1, hT.2.2.2.1]
  refine ⟨fun h => ?_, fun h => ?_⟩
  · rw [decide_eq_false (fun e => h (by rw [e]; rfl))] at H; exact z01 H
  · have hk := nI_inj (b := 3) (by omega) (by omega) h
    have := kd_n0 (f := f) (n := n) (a := a) (by omega)
    have n4 := hT.1
    rw [decide_eq_true hk] at H
    rw [nx_nI (by omega)]
    refine ⟨vp_in_nI (by omega) (by decide), fun h2 => ?_, fun h2 => ?_⟩
    · rw [decide_eq_false h2] at H; exact z01 H
    · rw [decide_eq_true h2] at H; exact z11 H
theorem c_aW (hT : TK f n a μ) {w : Nat} {bs : List Int32} (hW : WOK w bs) (hs : isS w = true) (hl : bs.length < 20) (H : Φ (.inl (some (.int (b2i (wdm f n a bs))))) μ) : Spec g i_Tape_atWord 0 [.ref 1, .ref w] μ Φ := by
  have k3 := kd_3 (f := f) (n := n) (a := a)
  have n4 := hT.1
  have toT : ∀ {X : Prop}, X → isT (isS w) X := fun h => by rw [hs]; exact h
  refine spi o_Tape_atWord rfl (v_Tape_atWord_0 ?_)
  unfold wdm at H
  rw [hT.2.2.2.2.2.1]
  refine ⟨fun h => ?_, fun h => toT ((hW g _ μ).1 (oI ?_))⟩
  · rw [decide_eq_false (fun e => h (by rw [e]; rfl))] at H; exact z01 H
  · have hk := nI_inj (b := 1) (by omega) (by omega) h
    have he := en_le (f := f) hT.2.1
    have hge := en_ge (f := f) (n := n) (a := a)
    rw [decide_eq_true hk] at H
    rw [hT.2.2.2.2.2.2.2.1, hT.2.2.2.2.2.2.1, pk_sub hge]
    refine ⟨fun h2 => ?_, fun h2 => ?_⟩
    · have hlen := nI_inj (by omega) (by omega) h2
      rw [decide_eq_true hlen] at H
      refine zup (P := fun k => (∀ i, i < k → f (a + i) = bs.getD i 0) → WW g i_Tape_atWord 0 Φ 0 0 28 [(0, .ref 1), (1, .ref w), (2, .int (nI k))] [] μ) bs.length ?_ ?_ (fun i h => absurd h (Nat.not_lt_zero _))
      · intro hall
        rw [decide_eq_true hall] at H
        exact v_Tape_atWord_28 (toT ((hW g _ μ).1 (oI ⟨fun _ => z11 H, fun h => absurd (nI_le (Nat.le_refl _) (by omega)) h⟩)))
      · intro k hk2 ih hall
        refine v_Tape_atWord_28 (toT ((hW g _ μ).1 (oI ⟨fun h => absurd h (nI_ge hk2 (by omega)), fun _ => ?_⟩)))
        rw [hT.2.2.2.2.2.2.1, nI_add, nx_nI (by omega), hT.2.2.2.1]
        refine ⟨vp_in_nI (by omega) (by decide), toT ((hW g _ μ).2 k hk2 (oI ⟨fun h3 => ?_, fun h3 => ?_⟩))⟩
        · rw [← nI_succ]
          refine ih fun i hi => ?_
          by_cases e : i = k
          · rw [e]; exact h3
          · exact hall i (by omega)
        · rw [decide_eq_false (fun q => h3 (q k hk2))] at H; exact z01 H
    · rw [decide_eq_false (fun e => h2 (by rw [e]))] at H; exact z01 H
theorem c_tW (hT : TK f n a μ) {w : Nat} {bs : List Int32} (hW : WOK w bs) (hs : isS w = true) (hl : bs.length < 20) (H0 : wdm f n a bs = false → Φ (.inl (some (.int 0))) μ) (H1 : wdm f n a bs = true → ∀ μ', Lz zTk μ' = Lz zTk μ → TK f n (nxt f n a) μ' → Φ (.inl (some (.int 1))) μ') : Spec g i_Tape_takeWord 0 [.ref 1, .ref w] μ Φ :=
  spi o_Tape_takeWord rfl (v_Tape_takeWord_0 (c_aW hT hW hs hl (oI ⟨fun h => c_nx hT fun μ' e h' => oV (z11 (H1 (b2i_n0.mp h) μ' e h')), fun h => z01 (H0 (b2i_0.mp h))⟩)))
theorem c_tS (hT : TK f n a μ) {c : Int32} (H0 : sgn f n a c = false → Φ (.inl (some (.int 0))) μ) (H1 : sgn f n a c = true → ∀ μ', Lz zTk μ' = Lz zTk μ → TK f n (nxt f n a) μ' → Φ (.inl (some (.int 1))) μ') : Spec g i_Tape_takeSign 0 [.ref 1, .int c] μ Φ :=
  spi o_Tape_takeSign rfl (v_Tape_takeSign_0 (c_aS hT (oI ⟨fun h => c_nx hT fun μ' e h' => oV (z11 (H1 (b2i_n0.mp h) μ' e h')), fun h => z01 (H0 (b2i_0.mp h))⟩)))
theorem c_tN (hT : TK f n a μ) {lo hi : Int32} (H0 : nok f n a lo hi = false → Φ (.inl (some (.int (-1)))) μ) (H1 : nok f n a lo hi = true → ∀ μ', Lz zTk μ' = Lz zTk μ → TK f n (nxt f n a) μ' → Φ (.inl (some (.int (nb f n a)))) μ') : Spec g i_Tape_takeNumber 0 [.ref 1, .int lo, .int hi] μ Φ := by
  refine spi o_Tape_takeNumber rfl (v_Tape_takeNumber_0 (c_aN hT (oI ⟨fun h => ?_, fun h => H0 (b2i_0.mp h)⟩)))
  rw [hT.2.2.2.2.2.2.2.2]
  exact c_nx hT fun μ' e h' => oV (H1 (b2i_n0.mp h) μ' e h')
end TAPE
