/-! a law's text: both ways of reading it say the same -/
section LWE
variable {f : Nat → Int32} {n : Nat}
theorem stE_n {j x : Int32} {W : CLs} (h : ¬ x < j) : stE j (x :: W) = x :: stE j W := if_neg h
theorem stR_n {j x : Int32} {W : CLs} (h : ¬ x < j) : stR j (x :: W) = stR j W := if_neg h
theorem stE_y {j x : Int32} {W : CLs} (h : x < j) : stE j (x :: W) = [] := if_pos h
theorem stR_y {j x : Int32} {W : CLs} (h : x < j) : stR j (x :: W) = x :: W := if_pos h
theorem JNk_cg {K K' : Nat → CLs → PRt CLs} {b : Nat} {W : CLs} (hW : WSo W) (h6 : dpt W ≤ 6) (h : ¬ kd f n b = 0 → ∀ W', WSo W' → dpt W' ≤ 6 → K (nxt f n b) W' = K' (nxt f n b) W') : JNk f n K b W = JNk f n K' b W := by
  unfold JNk
  by_cases ha : wdm f n b bAn = true
  · rw [if_pos ha, if_pos ha, h (wdm_n0 ha) _ (WSo_c (WSo_R hW) (by decide)) (Nat.le_trans dpt_R h6)]
  · rw [if_neg ha, if_neg ha]
    by_cases ho : wdm f n b bOr = true
    · rw [if_pos ho, if_pos ho, h (wdm_n0 ho) _ (WSo_c (WSo_R hW) (by decide)) (Nat.le_trans dpt_R h6)]
    · rw [if_neg ho, if_neg ho]
theorem CMf_fuel : ∀ d d' a W, a ≤ n → tks f n a = a → WSo W → dpt W ≤ 6 → n - a < d → n - a < d' → CMf f n d a W = CMf f n d' a W := by
  intro d
  induction d with
  | zero => intro d' a W _ _ _ _ h; omega
  | succ d ih =>
    intro d' a W ha ht hW h6 h h'
    cases d' with
    | zero => omega
    | succ d' =>
      unfold CMf
      refine bdP_cg rfl fun x hx => ?_
      obtain ⟨o1, o2, o3, o4, o5, -⟩ := opU_st 7 a W x (by omega) h6 ha ht hW hx
      refine bdP_cg rfl fun y hy => ?_
      obtain ⟨p1, p2, p3⟩ := fcP_adv o2 y hy
      have W1 : WSo (stR (-12) x.1) := WSo_R o4
      have d1 : dpt (stR (-12) x.1) ≤ 6 := Nat.le_trans dpt_R o5
      obtain ⟨c1, c2, c3, c4, c5, -⟩ := clU_st 6 y.2 (stR (-12) x.1) (Nat.le_trans brk_dpt d1) (Nat.le_refl _) p2 p3 W1 d1
      unfold CLk
      rw [JNk_cg c4 c5 fun hk W' w1 w2 => ?_]
      have := nxt_gt hk
      exact ih d' _ W' (nxt_le c2) nxt_tk w1 w2 (by omega) (by omega)
theorem CMu_eq {a : Nat} {W : CLs} (ha : a ≤ n) (ht : tks f n a = a) (hW : WSo W) (h6 : dpt W ≤ 6) : CMu f n a W = bdP (opU f n a W) fun W' a' => bdP (fcP f n a') fun c b => preP c (CLu f n b W') := by
  have e : CMu f n a W = CMf f n (n + 2) a W := CMf_fuel _ _ a W ha ht hW h6 (by omega) (by omega)
  rw [e]; rfl
def pp (r : PRt CLs) (F : Nat → PRt CLs) : PRt CLs := bdP r fun c b => preP c (F b)
theorem pp_pre {c : CLs} {r : PRt CLs} {F : Nat → PRt CLs} : pp (preP c r) F = preP c (pp r F) := by
  cases r with
  | inl x => exact (preP_app c x.1 (F x.2)).symm
  | inr b => rfl
theorem pp_bd {α : Type} {r : PRt α} {k : α → Nat → PRt CLs} {F : Nat → PRt CLs} : pp (bdP r k) F = bdP r fun c b => pp (k c b) F := by
  cases r with
  | inl x => rfl
  | inr b => rfl
theorem pp_nil {b : Nat} {F : Nat → PRt CLs} : pp (.inl ([], b)) F = F b := preP_nil _
theorem CL_not {b : Nat} {W : CLs} : CLu f n b (-12 :: W) = preP [-12] (CLu f n b W) := by
  unfold CLu CLk
  rw [stE_n (by decide), stR_n (by decide)]
  exact (preP_app [-12] (stE (-12) W ++ (clU f n b (stR (-12) W)).1) _).symm
theorem clU_w {b : Nat} {W : CLs} (hW : WSo W) (h6 : dpt W ≤ 6) (h : sgn f n b 41 = false) : clU f n b W = ([], b, W) := by
  rw [clU_eq hW (Nat.le_trans brk_dpt h6)]
  by_cases h0 : brk W = 0
  · rw [if_pos h0]
  · rw [if_neg h0, if_neg (by rw [h]; decide)]
theorem CL_jn {b : Nat} {W : CLs} {j : Int32} (hj : j = -13 ∨ j = -14) (hW : WSo W) (h6 : dpt W ≤ 6) (hd : HD j W) (hn : j = -14 → wdm f n b bAn = false) : CLu f n b (j :: W) = preP [j] (CLu f n b W) := by
  have j12 : j < -12 := by rcases hj with e | e <;> rw [e] <;> decide
  have j14 : ¬ j < -14 := by rcases hj with e | e <;> rw [e] <;> decide
  have jb : brk (j :: W) = brk W := by rcases hj with e | e <;> rw [e] <;> rfl
  have jd : dpt (j :: W) = dpt W := by rcases hj with e | e <;> rw [e] <;> rfl
  have jW : WSo (j :: W) := WSo_c hW (by rcases hj with e | e <;> rw [e] <;> decide)
  have hd12 : HD (-12) W := HD_le hd (Int32.le_of_lt j12)
  unfold CLu CLk
  rw [stE_y j12, stR_y j12, stE_hd hd12, stR_hd hd12]
  have key : ∀ b, (j = -14 → wdm f n b bAn = false) → JNk f n (CMu f n) b (j :: W) = preP [j] (JNk f n (CMu f n) b W) := by
    intro b hn
    unfold JNk
    by_cases ha : wdm f n b bAn = true
    · have e : j = -13 := by
        rcases hj with e | e
        · exact e
        · rw [hn e] at ha; cases ha
      rw [if_pos ha, if_pos ha, e, stE_n (by decide), stR_n (by decide)]
      exact (preP_app [-13] (stE (-13) W) _).symm
    · rw [if_neg ha, if_neg ha]
      by_cases ho : wdm f n b bOr = true
      · rw [if_pos ho, if_pos ho, stE_n j14, stR_n j14]
        exact (preP_app [j] (stE (-14) W) _).symm
      · rw [if_neg ho, if_neg ho, stE_n j14, jb]
        exact (preP_app [j] (stE (-14) W) _).symm
  by_cases hs : brk W ≠ 0 ∧ sgn f n b 41 = true
  · rw [clU_eq jW (Nat.le_trans brk_dpt (by omega)), clU_eq hW (Nat.le_trans brk_dpt h6), jb, if_neg hs.1, if_neg hs.1, if_pos hs.2, if_pos hs.2, stE_n j14, stR_n j14]
    exact (preP_app [j] _ _).symm
  · have e1 : ∀ V : CLs, brk V = brk W → WSo V → dpt V ≤ 6 → clU f n b V = ([], b, V) := fun V e1 e2 e3 => by
      rw [clU_eq e2 (Nat.le_trans brk_dpt e3), e1]
      by_cases h0 : brk W = 0
      · rw [if_pos h0]
      · rw [if_neg h0, if_neg fun q => hs ⟨h0, q⟩]
    rw [e1 _ jb jW (by omega), e1 W rfl hW h6]
    show preP [] (JNk f n (CMu f n) b (j :: W)) = preP [j] (preP [] (JNk f n (CMu f n) b W))
    rw [preP_nil, preP_nil]; exact key b hn
theorem CL_br {b : Nat} {W : CLs} (hW : WSo W) (h6 : dpt W < 6) (hs : sgn f n b 41 = true) : CLu f n b (-15 :: W) = CLu f n (nxt f n b) W := by
  have e6 : dpt (-15 :: W) = dpt W + 1 := rfl
  have eb : brk (-15 :: W) = brk W + 1 := rfl
  have := brk_dpt (W := W)
  unfold CLu CLk
  rw [stE_y (by decide), stR_y (by decide), clU_eq (WSo_c hW (by decide)) (by omega), if_neg (by omega), if_pos hs, stE_y (by decide), stR_y (by decide)]
  rfl
theorem CL_br0 {b : Nat} {W : CLs} (hW : WSo W) (h6 : dpt W < 6) (hs : sgn f n b 41 = false) (h1 : wdm f n b bAn = false) (h2 : wdm f n b bOr = false) : CLu f n b (-15 :: W) = .inr b := by
  have e6 : dpt (-15 :: W) = dpt W + 1 := rfl
  have eb : brk (-15 :: W) = brk W + 1 := rfl
  unfold CLu CLk
  rw [stE_y (by decide), stR_y (by decide), clU_w (WSo_c hW (by decide)) (by omega) hs]
  unfold JNk
  dsimp only
  rw [h1, h2, if_neg (by decide), if_neg (by decide), if_neg (by omega)]; rfl
theorem CL_0 {b : Nat} (h1 : wdm f n b bAn = false) (h2 : wdm f n b bOr = false) : CLu f n b [] = .inl ([], b) := by
  have e : CLu f n b [] = preP [] (JNk f n (CMu f n) b []) := rfl
  rw [e, preP_nil]
  unfold JNk
  rw [h1, h2, if_neg (by decide), if_neg (by decide)]; rfl
theorem sgn_w {b : Nat} {c : Int32} {bs : List Int32} (h : wdm f n b bs = true) : sgn f n b c = false := by
  unfold sgn
  rw [wdm_1 h]; rfl
theorem or_and {b : Nat} (h : wdm f n b bOr = true) : wdm f n b bAn = false := by
  cases h2 : wdm f n b bAn with
  | false => rfl
  | true =>
    unfold wdm at h h2
    simp only [Bool.and_eq_true, decide_eq_true_eq] at h h2
    have e1 : en f n b - b = 2 := h.2.1
    have e2 : en f n b - b = 3 := h2.2.1
    omega
theorem CL_and {b : Nat} {W : CLs} (hW : WSo W) (h6 : dpt W ≤ 6) (hd : HD (-13) W) (h : wdm f n b bAn = true) : CLu f n b W = CMu f n (nxt f n b) (-13 :: W) := by
  have hd12 : HD (-12) W := HD_le hd (by decide)
  unfold CLu CLk
  rw [stE_hd hd12, stR_hd hd12, clU_w hW h6 (sgn_w h)]
  show preP [] (JNk f n (CMu f n) b W) = _
  rw [preP_nil]
  unfold JNk
  rw [if_pos h, stE_hd hd, stR_hd hd, preP_nil]
theorem CL_or {b : Nat} {W : CLs} (hW : WSo W) (h6 : dpt W ≤ 6) (hd : HD (-14) W) (h : wdm f n b bOr = true) : CLu f n b W = CMu f n (nxt f n b) (-14 :: W) := by
  have hd12 : HD (-12) W := HD_le hd (by decide)
  unfold CLu CLk
  rw [stE_hd hd12, stR_hd hd12, clU_w hW h6 (sgn_w h)]
  show preP [] (JNk f n (CMu f n) b W) = _
  rw [preP_nil]
  unfold JNk
  rw [or_and h, if_neg (by decide), if_pos h, stE_hd hd, stR_hd hd, preP_nil]
theorem LP2_end : ∀ d a k x, LPf f n d 2 a k = .inl x → wdm f n x.2 bAn = false := by
  intro d
  induction d with
  | zero => intro a k x h; cases h
  | succ d ih =>
    intro a k x h
    unfold LPf at h
    split at h
    · obtain ⟨y, -, h⟩ := bdP_l h
      obtain ⟨z, h1, h2⟩ := bdP_l h
      rw [← Sum.inl.inj h2]; exact ih _ _ z h1
    · rename_i hw
      rw [← Sum.inl.inj h]
      exact Bool.eq_false_iff.mpr hw
theorem LP1_end : ∀ d a k x, LPf f n d 1 a k = .inl x → wdm f n x.2 bAn = false := by
  intro d a k x h
  cases d with
  | zero => cases h
  | succ d =>
    unfold LPf at h
    obtain ⟨y, -, h⟩ := bdP_l h
    obtain ⟨z, h1, h2⟩ := bdP_l h
    rw [← Sum.inl.inj h2]; exact LP2_end _ _ _ z h1
theorem LP4_end : ∀ d a k x, LPf f n d 4 a k = .inl x → wdm f n a bAn = false → wdm f n x.2 bOr = false ∧ wdm f n x.2 bAn = false := by
  intro d
  induction d with
  | zero => intro a k x h; cases h
  | succ d ih =>
    intro a k x h ha
    unfold LPf at h
    split at h
    · obtain ⟨y, h0, h⟩ := bdP_l h
      obtain ⟨z, h1, h2⟩ := bdP_l h
      rw [← Sum.inl.inj h2]; exact ih _ _ z h1 (LP1_end _ _ _ y h0)
    · rename_i hw
      rw [← Sum.inl.inj h]
      exact ⟨Bool.eq_false_iff.mpr hw, ha⟩
theorem LP3_end : ∀ d a k x, LPf f n d 3 a k = .inl x → wdm f n x.2 bOr = false ∧ wdm f n x.2 bAn = false := by
  intro d a k x h
  cases d with
  | zero => cases h
  | succ d =>
    unfold LPf at h
    obtain ⟨y, h0, h⟩ := bdP_l h
    obtain ⟨z, h1, h2⟩ := bdP_l h
    rw [← Sum.inl.inj h2]; exact LP4_end _ _ _ z h1 (LP1_end _ _ _ y h0)
theorem LW_eq : ∀ N m a W, 4 * (n - a) + rkP m < N → a ≤ n → tks f n a = a → WSo W → dpt W ≤ 6 → (m = 0 ∨ (m = 1 ∨ m = 2) ∧ HD (-13) W ∨ (m = 3 ∨ m = 4) ∧ HD (-14) W) →
    (if m = 2 ∨ m = 4 then CLu f n a W else CMu f n a W) = pp (LPu f n m a (dpt W)) (fun b => CLu f n b W) := by
  intro N
  induction N with
  | zero => intro m a W h; omega
  | succ N ih =>
    intro m a W h ha ht hW h6 hm
    have r0 : rkP 0 = 1 := rfl
    have r1 : rkP 1 = 2 := rfl
    have r2 : rkP 2 = 0 := rfl
    have r3 : rkP 3 = 3 := rfl
    have r4 : rkP 4 = 0 := rfl
    rcases hm with e | ⟨e | e, hd⟩ | ⟨e | e, hd⟩
    · subst e
      rw [if_neg (by decide), LPu_0 ha ht, CMu_eq ha ht hW h6, opU_eq h6]
      by_cases hs : sgn f n a 40 = true
      · rw [if_pos hs, if_pos hs]
        by_cases hk : dpt W = 6
        · rw [if_pos hk, if_pos hk]; rfl
        · rw [if_neg hk, if_neg hk, ← CMu_eq (W := -15 :: W) (nxt_le ha) nxt_tk (WSo_c hW (by decide)) (show dpt W + 1 ≤ 6 by omega)]
          have hgt := nxt_gt (sgn_k hs)
          have hle := nxt_le (f := f) ha
          have := ih 3 (nxt f n a) (-15 :: W) (by omega) hle nxt_tk (WSo_c hW (by decide)) (show dpt W + 1 ≤ 6 by omega) (Or.inr (Or.inr ⟨Or.inl rfl, (by decide : (-15 : Int32) < -14)⟩))
          rw [if_neg (by decide)] at this
          rw [this, pp_bd]
          refine bdP_cg rfl fun x hx => ?_
          obtain ⟨q1, q2⟩ := LP3_end _ _ _ x hx
          by_cases h41 : sgn f n x.2 41 = true
          · rw [if_pos h41]; show preP x.1 (CLu f n x.2 (-15 :: W)) = _; rw [CL_br hW (by omega) h41]; rfl
          · rw [if_neg h41]; show preP x.1 (CLu f n x.2 (-15 :: W)) = _; rw [CL_br0 hW (by omega) (Bool.eq_false_iff.mpr h41) q2 q1]; rfl
      · rw [if_neg hs, if_neg hs]
        by_cases hw : wdm f n a bNo = true
        · rw [if_pos hw, if_pos hw]
          by_cases hk : dpt W = 6
          · rw [if_pos hk, if_pos hk]; rfl
          · rw [if_neg hk, if_neg hk, ← CMu_eq (W := -12 :: W) (nxt_le ha) nxt_tk (WSo_c hW (by decide)) (show dpt W + 1 ≤ 6 by omega)]
            have hgt := nxt_gt (wdm_n0 hw)
            have hle := nxt_le (f := f) ha
            have := ih 0 (nxt f n a) (-12 :: W) (by omega) hle nxt_tk (WSo_c hW (by decide)) (show dpt W + 1 ≤ 6 by omega) (Or.inl rfl)
            rw [if_neg (by decide)] at this
            rw [this, pp_bd]
            refine bdP_cg rfl fun x hx => ?_
            show preP x.1 (CLu f n x.2 (-12 :: W)) = _
            rw [CL_not]; exact preP_app _ _ _
        · rw [if_neg hw, if_neg hw]; rfl
    · subst e
      have := ih 0 a W (by omega) ha ht hW h6 (Or.inl rfl)
      rw [if_neg (by decide)] at this
      rw [if_neg (by decide), LPu_1 ha ht, this, pp_bd]
      refine bdP_cg rfl fun x hx => ?_
      obtain ⟨a1, a2, a3⟩ := LPu_adv ha ht x hx
      rw [if_neg (by decide)] at a1
      have i2 := ih 2 x.2 W (by omega) a2 a3 hW h6 (Or.inr (Or.inl ⟨Or.inr rfl, hd⟩))
      rw [if_pos (by decide)] at i2
      rw [pp_pre, ← i2]
    · subst e
      rw [if_pos (by decide), LPu_2 ha ht]
      by_cases hw : wdm f n a bAn = true
      · have hgt := nxt_gt (wdm_n0 hw)
        have hle := nxt_le (f := f) ha
        rw [if_pos hw, CL_and hW h6 hd hw]
        have := ih 0 (nxt f n a) (-13 :: W) (by omega) hle nxt_tk (WSo_c hW (by decide)) h6 (Or.inl rfl)
        rw [if_neg (by decide)] at this
        rw [this, pp_bd]
        refine bdP_cg rfl fun x hx => ?_
        obtain ⟨a1, a2, a3⟩ := LPu_adv hle nxt_tk x hx
        rw [if_neg (by decide)] at a1
        have i2 := ih 2 x.2 W (by omega) a2 a3 hW h6 (Or.inr (Or.inl ⟨Or.inr rfl, hd⟩))
        rw [if_pos (by decide)] at i2
        show preP x.1 (CLu f n x.2 (-13 :: W)) = _
        rw [pp_pre, ← i2, CL_jn (Or.inl rfl) hW h6 hd (fun e => absurd e (by decide))]
        exact preP_app _ _ _
      · rw [if_neg hw, pp_nil]
    · subst e
      have := ih 1 a W (by omega) ha ht hW h6 (Or.inr (Or.inl ⟨Or.inl rfl, HD_le hd (by decide)⟩))
      rw [if_neg (by decide)] at this
      rw [if_neg (by decide), LPu_3 ha ht, this, pp_bd]
      refine bdP_cg rfl fun x hx => ?_
      obtain ⟨a1, a2, a3⟩ := LPu_adv ha ht x hx
      rw [if_neg (by decide)] at a1
      have i2 := ih 4 x.2 W (by omega) a2 a3 hW h6 (Or.inr (Or.inr ⟨Or.inr rfl, hd⟩))
      rw [if_pos (by decide)] at i2
      rw [pp_pre, ← i2]
    · subst e
      rw [if_pos (by decide), LPu_4 ha ht]
      by_cases hw : wdm f n a bOr = true
      · have hgt := nxt_gt (wdm_n0 hw)
        have hle := nxt_le (f := f) ha
        rw [if_pos hw, CL_or hW h6 hd hw]
        have := ih 1 (nxt f n a) (-14 :: W) (by omega) hle nxt_tk (WSo_c hW (by decide)) h6 (Or.inr (Or.inl ⟨Or.inl rfl, (by decide : (-14 : Int32) < -13)⟩))
        rw [if_neg (by decide)] at this
        rw [this, pp_bd]
        refine bdP_cg rfl fun x hx => ?_
        obtain ⟨a1, a2, a3⟩ := LPu_adv hle nxt_tk x hx
        rw [if_neg (by decide)] at a1
        have i2 := ih 4 x.2 W (by omega) a2 a3 hW h6 (Or.inr (Or.inr ⟨Or.inr rfl, hd⟩))
        rw [if_pos (by decide)] at i2
        show preP x.1 (CLu f n x.2 (-14 :: W)) = _
        rw [pp_pre, ← i2, CL_jn (Or.inr rfl) hW h6 hd (fun _ => LP1_end _ _ _ x hx)]
        exact preP_app _ _ _
      · rw [if_neg hw, pp_nil]
/-- the class's way of reading a condition is the reference's -/
theorem CM_LP {a : Nat} (ha : a ≤ n) (ht : tks f n a = a) : CMu f n a [] = LPu f n 3 a 0 := by
  have := LW_eq (f := f) (n := n) _ 3 a [] (Nat.lt_succ_self _) ha ht (fun x h => absurd h List.not_mem_nil) (Nat.zero_le _) (Or.inr (Or.inr ⟨Or.inl rfl, trivial⟩))
  rw [if_neg (by decide)] at this
  rw [this]
  show pp (LPu f n 3 a 0) _ = _
  cases hr : LPu f n 3 a 0 with
  | inr b => rfl
  | inl x =>
    obtain ⟨q1, q2⟩ := LP3_end _ _ _ x hr
    show preP x.1 (CLu f n x.2 []) = _
    rw [CL_0 q2 q1]
    show Sum.inl (x.1 ++ [], x.2) = _
    rw [List.append_nil]
end LWE
