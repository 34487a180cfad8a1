/-! a law's text as the class reads it: what waits, top first -/
def stE (j : Int32) : CLs → CLs
  | [] => []
  | x :: W => if x < j then [] else x :: stE j W
def stR (j : Int32) : CLs → CLs
  | [] => []
  | x :: W => if x < j then x :: W else stR j W
def brk : CLs → Nat
  | [] => 0
  | x :: W => if x = -15 then brk W + 1 else brk W
def dpt : CLs → Nat
  | [] => 0
  | x :: W => if x = -12 ∨ x = -15 then dpt W + 1 else dpt W
def WSo (W : CLs) : Prop := ∀ x, x ∈ W → x = -12 ∨ x = -13 ∨ x = -14 ∨ x = -15
/-- what is on top binds more loosely -/
def HD (j : Int32) : CLs → Prop
  | [] => True
  | x :: _ => x < j
section STK
variable {j : Int32} {W : CLs}
theorem stE_hd (h : HD j W) : stE j W = [] := by
  cases W with
  | nil => rfl
  | cons x W => exact if_pos h
theorem stR_hd (h : HD j W) : stR j W = W := by
  cases W with
  | nil => rfl
  | cons x W => exact if_pos h
theorem hd_stR : HD j (stR j W) := by
  induction W with
  | nil => exact trivial
  | cons x W ih =>
    unfold stR
    split
    · rename_i h; exact h
    · exact ih
theorem HD_le {i : Int32} (h : HD i W) (hij : i ≤ j) : HD j W := by
  cases W with
  | nil => exact trivial
  | cons x W => exact Int32.lt_of_lt_of_le h hij
theorem WSo_t {x : Int32} (h : WSo (x :: W)) : WSo W := fun y hy => h y (List.mem_cons_of_mem _ hy)
theorem WSo_R (h : WSo W) : WSo (stR j W) := by
  induction W with
  | nil => exact h
  | cons x W ih =>
    unfold stR
    split
    · exact h
    · exact ih (WSo_t h)
theorem WSo_tl (h : WSo W) : WSo W.tail := by
  cases W with
  | nil => exact h
  | cons x W => exact WSo_t h
theorem WSo_c {x : Int32} (h : WSo W) (hx : x = -12 ∨ x = -13 ∨ x = -14 ∨ x = -15) : WSo (x :: W) := fun y hy => by
  rcases List.mem_cons.mp hy with e | e
  · rw [e]; exact hx
  · exact h y e
theorem brk_R (hj : (-14 : Int32) ≤ j) : brk (stR j W) = brk W := by
  induction W with
  | nil => rfl
  | cons x W ih =>
    unfold stR
    split
    · rfl
    · rename_i h
      show _ = if x = -15 then brk W + 1 else brk W
      rw [if_neg (fun e => h (by rw [e]; exact Int32.lt_of_lt_of_le (by decide) hj)), ih]
theorem brk_tl (h : WSo W) (hd : HD (-14) W) (h0 : ¬ brk W = 0) : brk W.tail + 1 = brk W := by
  cases W with
  | nil => exact absurd rfl h0
  | cons x W =>
    have hx : x = -15 := by
      rcases h x List.mem_cons_self with e | e | e | e
      · rw [e] at hd; exact absurd (show _ < (-14 : Int32) from hd) (by decide)
      · rw [e] at hd; exact absurd (show _ < (-14 : Int32) from hd) (by decide)
      · rw [e] at hd; exact absurd (show _ < (-14 : Int32) from hd) (by decide)
      · exact e
    show brk W + 1 = if x = -15 then brk W + 1 else brk W
    rw [if_pos hx]
theorem brk_dpt : brk W ≤ dpt W := by
  induction W with
  | nil => exact Nat.le_refl _
  | cons x W ih =>
    unfold brk dpt
    split
    · rename_i h; rw [if_pos (Or.inr h)]; omega
    · split <;> omega
theorem stE_len : (stE j W).length + (stR j W).length = W.length := by
  induction W with
  | nil => rfl
  | cons x W ih =>
    unfold stE stR
    split
    · simp
    · simp only [List.length_cons]; omega
theorem dpt_R : dpt (stR j W) ≤ dpt W := by
  induction W with
  | nil => exact Nat.le_refl _
  | cons x W ih =>
    unfold stR
    split
    · exact Nat.le_refl _
    · refine Nat.le_trans ih ?_
      show _ ≤ if x = -12 ∨ x = -15 then dpt W + 1 else dpt W
      split <;> omega
theorem dpt_tl : dpt W.tail ≤ dpt W := by
  cases W with
  | nil => exact Nat.le_refl _
  | cons x W =>
    show dpt W ≤ if x = -12 ∨ x = -15 then dpt W + 1 else dpt W
    split <;> omega
end STK
section CMD
variable (f : Nat → Int32) (n : Nat)
def opF : Nat → Nat → CLs → PRt CLs
  | 0, a, _ => .inr a
  | d + 1, a, W => if sgn f n a 40 = true then (if dpt W = 6 then .inr a else opF d (nxt f n a) (-15 :: W)) else if wdm f n a bNo = true then (if dpt W = 6 then .inr a else opF d (nxt f n a) (-12 :: W)) else .inl (W, a)
def clF : Nat → Nat → CLs → CLs × Nat × CLs
  | 0, b, W => ([], b, W)
  | d + 1, b, W => if brk W = 0 then ([], b, W) else if sgn f n b 41 = true then (stE (-14) W ++ (stE (-12) (stR (-14) W).tail ++ (clF d (nxt f n b) (stR (-12) (stR (-14) W).tail)).1), (clF d (nxt f n b) (stR (-12) (stR (-14) W).tail)).2) else ([], b, W)
def opU (a : Nat) (W : CLs) : PRt CLs := opF f n 7 a W
def clU (b : Nat) (W : CLs) : CLs × Nat × CLs := clF f n 6 b W
/-- what comes behind the closings, when `K` goes on -/
def JNk (K : Nat → CLs → PRt CLs) (b : Nat) (W : CLs) : PRt CLs :=
  if wdm f n b bAn = true then preP (stE (-13) W) (K (nxt f n b) (-13 :: stR (-13) W)) else if wdm f n b bOr = true then preP (stE (-14) W) (K (nxt f n b) (-14 :: stR (-14) W)) else preP (stE (-14) W) (if brk W = 0 then .inl ([], b) else .inr b)
def CLk (K : Nat → CLs → PRt CLs) (b : Nat) (W : CLs) : PRt CLs := preP (stE (-12) W ++ (clU f n b (stR (-12) W)).1) (JNk f n K (clU f n b (stR (-12) W)).2.1 (clU f n b (stR (-12) W)).2.2)
def CMf : Nat → Nat → CLs → PRt CLs
  | 0, a, _ => .inr a
  | d + 1, a, W => bdP (opU f n a W) fun W' a' => bdP (fcP f n a') fun c b => preP c (CLk f n (CMf d) b W')
def CMu (a : Nat) (W : CLs) : PRt CLs := CMf f n (n + 1) a W
def CLu (b : Nat) (W : CLs) : PRt CLs := CLk f n (CMu f n) b W
end CMD
section CME
variable {f : Nat → Int32} {n : Nat}
theorem opF_fuel : ∀ d d' a W, 6 - dpt W < d → 6 - dpt W < d' → dpt W ≤ 6 → opF f n d a W = opF f n d' a W := by
  intro d
  induction d with
  | zero => intro d' a W h; omega
  | succ d ih =>
    intro d' a W h h' h6
    cases d' with
    | zero => omega
    | succ d' =>
      have e15 : dpt (-15 :: W) = dpt W + 1 := rfl
      have e12 : dpt (-12 :: W) = dpt W + 1 := rfl
      unfold opF
      by_cases hs : sgn f n a 40 = true
      · rw [if_pos hs, if_pos hs]
        by_cases hk : dpt W = 6
        · rw [if_pos hk, if_pos hk]
        · rw [if_neg hk, if_neg hk]; exact ih d' _ _ (by omega) (by omega) (by omega)
      · rw [if_neg hs, if_neg hs]
        by_cases hw : wdm f n a bNo = true
        · rw [if_pos hw, if_pos hw]
          by_cases hk : dpt W = 6
          · rw [if_pos hk, if_pos hk]
          · rw [if_neg hk, if_neg hk]; exact ih d' _ _ (by omega) (by omega) (by omega)
        · rw [if_neg hw, if_neg hw]
theorem opU_eq {a : Nat} {W : CLs} (h6 : dpt W ≤ 6) : opU f n a W = if sgn f n a 40 = true then (if dpt W = 6 then .inr a else opU f n (nxt f n a) (-15 :: W)) else if wdm f n a bNo = true then (if dpt W = 6 then .inr a else opU f n (nxt f n a) (-12 :: W)) else .inl (W, a) := by
  have e15 : dpt (-15 :: W) = dpt W + 1 := rfl
  have e12 : dpt (-12 :: W) = dpt W + 1 := rfl
  show (if sgn f n a 40 = true then (if dpt W = 6 then .inr a else opF f n 6 (nxt f n a) (-15 :: W)) else if wdm f n a bNo = true then (if dpt W = 6 then .inr a else opF f n 6 (nxt f n a) (-12 :: W)) else .inl (W, a)) = _
  by_cases hk : dpt W = 6
  · simp only [if_pos hk]
  · rw [if_neg hk, if_neg hk, if_neg hk, if_neg hk, opF_fuel 6 7 _ (-15 :: W) (by omega) (by omega) (by omega), opF_fuel 6 7 _ (-12 :: W) (by omega) (by omega) (by omega)]; rfl
theorem opU_st : ∀ d a W x, 6 - dpt W < d → dpt W ≤ 6 → a ≤ n → tks f n a = a → WSo W → opU f n a W = .inl x → a ≤ x.2 ∧ x.2 ≤ n ∧ tks f n x.2 = x.2 ∧ WSo x.1 ∧ dpt x.1 ≤ 6 ∧ x.1.length + a ≤ W.length + x.2 := by
  intro d
  induction d with
  | zero => intro a W x h; omega
  | succ d ih =>
    intro a W x h h6 ha ht hW hx
    have e15 : dpt (-15 :: W) = dpt W + 1 := rfl
    have e12 : dpt (-12 :: W) = dpt W + 1 := rfl
    rw [opU_eq h6] at hx
    split at hx
    · rename_i hs
      have hgt := nxt_gt (sgn_k hs)
      split at hx
      · cases hx
      · obtain ⟨h1, h2, h3, h4, h5, h7⟩ := ih _ _ x (by omega) (by omega) (nxt_le ha) nxt_tk (WSo_c hW (by decide)) hx
        rw [List.length_cons] at h7
        exact ⟨by omega, h2, h3, h4, h5, by omega⟩
    · split at hx
      · rename_i hs
        have hgt := nxt_gt (wdm_n0 hs)
        split at hx
        · cases hx
        · obtain ⟨h1, h2, h3, h4, h5, h7⟩ := ih _ _ x (by omega) (by omega) (nxt_le ha) nxt_tk (WSo_c hW (by decide)) hx
          rw [List.length_cons] at h7
          exact ⟨by omega, h2, h3, h4, h5, by omega⟩
      · rw [← Sum.inl.inj hx]
        exact ⟨Nat.le_refl _, ha, ht, hW, h6, Nat.le_refl _⟩
theorem brk_c {W : CLs} (h : WSo W) (h0 : ¬ brk W = 0) : brk (stR (-12) (stR (-14) W).tail) + 1 = brk W := by
  rw [brk_R (by decide)]
  have e : brk (stR (-14) W) = brk W := brk_R (by decide)
  rw [← e]
  exact brk_tl (WSo_R h) hd_stR (by omega)
theorem clF_fuel : ∀ d d' b W, WSo W → brk W ≤ d → brk W ≤ d' → clF f n d b W = clF f n d' b W := by
  intro d
  induction d with
  | zero =>
    intro d' b W _ h _
    cases d' with
    | zero => rfl
    | succ d' => unfold clF; rw [if_pos (by omega)]
  | succ d ih =>
    intro d' b W hW h h'
    cases d' with
    | zero => unfold clF; rw [if_pos (by omega)]
    | succ d' =>
      unfold clF
      by_cases h0 : brk W = 0
      · rw [if_pos h0, if_pos h0]
      · rw [if_neg h0, if_neg h0]
        have := brk_c hW h0
        rw [ih d' (nxt f n b) (stR (-12) (stR (-14) W).tail) (WSo_R (WSo_tl (WSo_R hW))) (by omega) (by omega)]
theorem clU_eq {b : Nat} {W : CLs} (hW : WSo W) (h6 : brk W ≤ 6) : clU f n b W = if brk W = 0 then ([], b, W) else if sgn f n b 41 = true then (stE (-14) W ++ (stE (-12) (stR (-14) W).tail ++ (clU f n (nxt f n b) (stR (-12) (stR (-14) W).tail)).1), (clU f n (nxt f n b) (stR (-12) (stR (-14) W).tail)).2) else ([], b, W) := by
  show (if brk W = 0 then ([], b, W) else if sgn f n b 41 = true then (stE (-14) W ++ (stE (-12) (stR (-14) W).tail ++ (clF f n 5 (nxt f n b) (stR (-12) (stR (-14) W).tail)).1), (clF f n 5 (nxt f n b) (stR (-12) (stR (-14) W).tail)).2) else ([], b, W)) = _
  by_cases h0 : brk W = 0
  · rw [if_pos h0, if_pos h0]
  · have := brk_c hW h0
    rw [if_neg h0, if_neg h0, clF_fuel 5 6 (nxt f n b) _ (WSo_R (WSo_tl (WSo_R hW))) (by omega) (by omega)]; rfl
theorem clU_st : ∀ d b W, brk W ≤ d → d ≤ 6 → b ≤ n → tks f n b = b → WSo W → dpt W ≤ 6 → b ≤ (clU f n b W).2.1 ∧ (clU f n b W).2.1 ≤ n ∧ tks f n (clU f n b W).2.1 = (clU f n b W).2.1 ∧ WSo (clU f n b W).2.2 ∧ dpt (clU f n b W).2.2 ≤ 6 ∧ (clU f n b W).1.length + (clU f n b W).2.2.length ≤ W.length := by
  intro d
  induction d with
  | zero =>
    intro b W h _ hb ht hW h6
    rw [clU_eq hW (by omega), if_pos (by omega)]
    exact ⟨Nat.le_refl _, hb, ht, hW, h6, by simp⟩
  | succ d ih =>
    intro b W h hd hb ht hW h6
    rw [clU_eq hW (by omega)]
    by_cases h0 : brk W = 0
    · rw [if_pos h0]; exact ⟨Nat.le_refl _, hb, ht, hW, h6, by simp⟩
    · rw [if_neg h0]
      by_cases hs : sgn f n b 41 = true
      · rw [if_pos hs]
        have hgt := nxt_gt (sgn_k hs)
        have hc := brk_c hW h0
        have d1 : dpt (stR (-12) (stR (-14) W).tail) ≤ 6 := Nat.le_trans dpt_R (Nat.le_trans dpt_tl (Nat.le_trans dpt_R h6))
        obtain ⟨i1, i2, i3, i4, i5, i6⟩ := ih (nxt f n b) (stR (-12) (stR (-14) W).tail) (by omega) (by omega) (nxt_le hb) nxt_tk (WSo_R (WSo_tl (WSo_R hW))) d1
        have l1 := stE_len (j := -14) (W := W)
        have l2 := stE_len (j := -12) (W := (stR (-14) W).tail)
        have l3 : (stR (-14) W).tail.length ≤ (stR (-14) W).length := by rw [List.length_tail]; omega
        refine ⟨Nat.le_trans (by omega) i1, i2, i3, i4, i5, ?_⟩
        simp only [List.length_append]; omega
      · rw [if_neg hs]; exact ⟨Nat.le_refl _, hb, ht, hW, h6, by simp⟩
end CME
