/-! a law's text: what it says -/
abbrev CLs : Type := List Int32
def bFa : CLs := [102, 97, 114]
def bNe : CLs := [110, 101, 97, 114]
def bAs : CLs := [97, 115]
def bIf : CLs := [105, 102]
def bNo : CLs := [110, 111, 116]
def bKw : CLs := [107, 110, 111, 119, 110]
def bWo : CLs := [119, 111, 114, 100, 105, 110, 103]
def bWh : CLs := [119, 104, 111]
def bWm : CLs := [119, 104, 111, 109]
def bAp : CLs := [97, 112, 97, 114, 116]
def bDa : CLs := [100, 97, 121]
def bAn : CLs := [97, 110, 100]
def bOr : CLs := [111, 114]
def preP (c : CLs) (r : PRt CLs) : PRt CLs := bdP r fun e b => .inl (c ++ e, b)
theorem preP_nil (r : PRt CLs) : preP [] r = r := by
  cases r with
  | inl x => rfl
  | inr b => rfl
theorem preP_app (c e : CLs) (r : PRt CLs) : preP c (preP e r) = preP (c ++ e) r := by
  cases r with
  | inl x => show Sum.inl (c ++ (e ++ x.1), x.2) = Sum.inl ((c ++ e) ++ x.1, x.2); rw [List.append_assoc]
  | inr b => rfl
section LWP
variable (f : Nat → Int32) (n : Nat)
def ptP (a : Nat) : PRt CLs :=
  if kd f n a = 1 then (if wdm f n a bTh = true then .inl ([-1], nxt f n a) else if wdm f n a bWo = true then .inl ([-2], nxt f n a) else if wdm f n a bWh = true then .inl ([-3], nxt f n a) else if wdm f n a bWm = true then .inl ([-4], nxt f n a) else if wdm f n a bAp = true then .inl ([-5], nxt f n a) else if wdm f n a bEa = true then .inl ([-6], nxt f n a) else if wdm f n a bDa = true then .inl ([-7], nxt f n a) else .inr a)
  else if nok f n a 0 999 = true then .inl ([nb f n a], nxt f n a) else .inr a
def smTl : Nat → Nat → PRt CLs
  | 0, a => .inr a
  | d + 1, a => if sgn f n a 43 = true then bdP (ptP f n (nxt f n a)) fun c b => preP (c ++ [-9]) (smTl d b) else .inl ([], a)
def smF (a : Nat) : PRt CLs := bdP (ptP f n a) fun c b => preP c (smTl f n (n + 1) b)
def cmP (a : Nat) : PRt CLs := bdP (smF f n a) fun c b => if sgn f n b 60 = true then bdP (smF f n (nxt f n b)) fun e b' => .inl (c ++ (e ++ [-10]), b') else if sgn f n b 62 = true then bdP (smF f n (nxt f n b)) fun e b' => .inl (c ++ (e ++ [-11]), b') else .inr b
def fcP (a : Nat) : PRt CLs := if wdm f n a bKw = true then .inl ([-8], nxt f n a) else cmP f n a
def LPf : Nat → Nat → Nat → Nat → PRt CLs
  | 0, _, a, _ => .inr a
  | d + 1, 0, a, k => if sgn f n a 40 = true then (if k = 6 then .inr a else bdP (LPf d 3 (nxt f n a) (k + 1)) fun c b => if sgn f n b 41 = true then .inl (c, nxt f n b) else .inr b)
      else if wdm f n a bNo = true then (if k = 6 then .inr a else bdP (LPf d 0 (nxt f n a) (k + 1)) fun c b => .inl (c ++ [-12], b)) else fcP f n a
  | d + 1, 1, a, k => bdP (LPf d 0 a k) fun c b => preP c (LPf d 2 b k)
  | d + 1, 2, a, k => if wdm f n a bAn = true then bdP (LPf d 0 (nxt f n a) k) fun c b => preP (c ++ [-13]) (LPf d 2 b k) else .inl ([], a)
  | d + 1, 3, a, k => bdP (LPf d 1 a k) fun c b => preP c (LPf d 4 b k)
  | d + 1, _ + 4, a, k => if wdm f n a bOr = true then bdP (LPf d 1 (nxt f n a) k) fun c b => preP (c ++ [-14]) (LPf d 4 b k) else .inl ([], a)
end LWP
/-- a reader that goes on, when it ends well -/
def Adv (f : Nat → Int32) (n : Nat) (r : PRt CLs) (a : Nat) : Prop := ∀ x, r = .inl x → a ≤ x.2 ∧ x.2 ≤ n ∧ tks f n x.2 = x.2
section LWQ
variable {f : Nat → Int32} {n : Nat}
theorem Adv_mono {r : PRt CLs} {a b : Nat} (h : Adv f n r b) (hab : a ≤ b) : Adv f n r a := fun x hx => by
  have := h x hx; exact ⟨by omega, this.2⟩
theorem Adv_pre {c : CLs} {r : PRt CLs} {a : Nat} (h : Adv f n r a) : Adv f n (preP c r) a := fun x hx => by
  obtain ⟨y, h1, h2⟩ := bdP_l hx
  have := h y h1
  rw [← Sum.inl.inj h2]; exact this
theorem Adv_nx {a : Nat} {c : CLs} (ha : a ≤ n) (hk : ¬ kd f n a = 0) : Adv f n (.inl (c, nxt f n a)) (a + 1) := fun x hx => by
  rw [← Sum.inl.inj hx]
  exact ⟨nxt_gt hk, nxt_le ha, nxt_tk⟩
theorem Adv_r {b a : Nat} : Adv f n (.inr b) a := fun x hx => by cases hx
theorem Adv_0 {a : Nat} {c : CLs} (ha : a ≤ n) (ht : tks f n a = a) : Adv f n (.inl (c, a)) a := fun x hx => by
  rw [← Sum.inl.inj hx]; exact ⟨Nat.le_refl _, ha, ht⟩
theorem Adv_bd {r : PRt CLs} {k : CLs → Nat → PRt CLs} {a b : Nat} (h : Adv f n r a) (hk : ∀ c x, a ≤ x → x ≤ n → tks f n x = x → r = .inl (c, x) → Adv f n (k c x) b) : Adv f n (bdP r k) b := fun x hx => by
  obtain ⟨y, h1, h2⟩ := bdP_l hx
  have := h y h1
  exact hk y.1 y.2 this.1 this.2.1 this.2.2 h1 x h2
theorem sgn_k {a : Nat} {c : Int32} (h : sgn f n a c = true) : ¬ kd f n a = 0 := by rw [sgn_3 h]; decide
theorem ptP_adv {a : Nat} (ha : a ≤ n) : Adv f n (ptP f n a) (a + 1) := by
  unfold ptP
  split
  · rename_i h
    have hk : ¬ kd f n a = 0 := by rw [h]; decide
    split
    · exact Adv_nx ha hk
    · split
      · exact Adv_nx ha hk
      · split
        · exact Adv_nx ha hk
        · split
          · exact Adv_nx ha hk
          · split
            · exact Adv_nx ha hk
            · split
              · exact Adv_nx ha hk
              · split
                · exact Adv_nx ha hk
                · exact Adv_r
  · split
    · rename_i h; exact Adv_nx ha (by rw [kd_nok h]; decide)
    · exact Adv_r
theorem smT_adv : ∀ d a, a ≤ n → tks f n a = a → Adv f n (smTl f n d a) a := by
  intro d
  induction d with
  | zero => intro a _ _; exact Adv_r
  | succ d ih =>
    intro a ha ht
    unfold smTl
    split
    · rename_i h
      have := nxt_gt (sgn_k h)
      exact Adv_bd (ptP_adv (nxt_le ha)) fun c x h1 h2 h3 _ => Adv_pre (Adv_mono (ih x h2 h3) (by omega))
    · exact Adv_0 ha ht
theorem smF_adv {a : Nat} (ha : a ≤ n) : Adv f n (smF f n a) (a + 1) := Adv_bd (ptP_adv ha) fun c x h1 h2 h3 _ => Adv_pre (Adv_mono (smT_adv _ x h2 h3) h1)
theorem cmP_adv {a : Nat} (ha : a ≤ n) : Adv f n (cmP f n a) (a + 1) := by
  refine Adv_bd (smF_adv ha) fun c x h1 h2 h3 _ => ?_
  split
  · rename_i h
    have := nxt_gt (sgn_k h)
    exact Adv_bd (smF_adv (nxt_le h2)) fun e y k1 k2 k3 _ => Adv_mono (Adv_0 k2 k3) (by omega)
  · split
    · rename_i h
      have := nxt_gt (sgn_k h)
      exact Adv_bd (smF_adv (nxt_le h2)) fun e y k1 k2 k3 _ => Adv_mono (Adv_0 k2 k3) (by omega)
    · exact Adv_r
theorem fcP_adv {a : Nat} (ha : a ≤ n) : Adv f n (fcP f n a) (a + 1) := by
  unfold fcP
  split
  · rename_i h; exact Adv_nx ha (wdm_n0 h)
  · exact cmP_adv ha
theorem LPf_adv : ∀ d m a k, a ≤ n → tks f n a = a → Adv f n (LPf f n d m a k) (if m = 2 ∨ 4 ≤ m then a else a + 1) := by
  intro d
  induction d with
  | zero => intro m a k _ _; exact Adv_r
  | succ d ih =>
    intro m a k ha ht
    match m with
    | 0 =>
      rw [if_neg (by omega)]
      unfold LPf
      split
      · rename_i h
        have := nxt_gt (sgn_k h)
        split
        · exact Adv_r
        · refine Adv_bd (ih 3 _ _ (nxt_le ha) nxt_tk) fun c x h1 h2 h3 _ => ?_
          rw [if_neg (by omega)] at h1
          split
          · rename_i h4
            have := nxt_gt (sgn_k h4)
            exact Adv_mono (Adv_nx h2 (sgn_k h4)) (by omega)
          · exact Adv_r
      · split
        · rename_i h
          have := nxt_gt (wdm_n0 h)
          split
          · exact Adv_r
          · refine Adv_bd (ih 0 _ _ (nxt_le ha) nxt_tk) fun c x h1 h2 h3 _ => ?_
            rw [if_neg (by omega)] at h1
            exact Adv_mono (Adv_0 h2 h3) (by omega)
        · exact fcP_adv ha
    | 1 =>
      rw [if_neg (by omega)]
      unfold LPf
      refine Adv_bd (ih 0 _ _ ha ht) fun c x h1 h2 h3 _ => ?_
      rw [if_neg (by omega)] at h1
      refine Adv_pre (Adv_mono (ih 2 x k h2 h3) ?_)
      rw [if_pos (by omega)]; exact h1
    | 2 =>
      rw [if_pos (by omega)]
      unfold LPf
      split
      · rename_i h
        have := nxt_gt (wdm_n0 h)
        refine Adv_bd (ih 0 _ _ (nxt_le ha) nxt_tk) fun c x h1 h2 h3 _ => ?_
        rw [if_neg (by omega)] at h1
        refine Adv_pre (Adv_mono (ih 2 x k h2 h3) ?_)
        rw [if_pos (by omega)]; omega
      · exact Adv_0 ha ht
    | 3 =>
      rw [if_neg (by omega)]
      unfold LPf
      refine Adv_bd (ih 1 _ _ ha ht) fun c x h1 h2 h3 _ => ?_
      rw [if_neg (by omega)] at h1
      refine Adv_pre (Adv_mono (ih 4 x k h2 h3) ?_)
      rw [if_pos (by omega)]; exact h1
    | m + 4 =>
      rw [if_pos (by omega)]
      unfold LPf
      split
      · rename_i h
        have := nxt_gt (wdm_n0 h)
        refine Adv_bd (ih 1 _ _ (nxt_le ha) nxt_tk) fun c x h1 h2 h3 _ => ?_
        rw [if_neg (by omega)] at h1
        refine Adv_pre (Adv_mono (ih 4 x k h2 h3) ?_)
        rw [if_pos (by omega)]; omega
      · exact Adv_0 ha ht
theorem bdP_cg {α β : Type} {r r' : PRt α} {k k' : α → Nat → PRt β} (h : r = r') (hk : ∀ x, r = .inl x → k x.1 x.2 = k' x.1 x.2) : bdP r k = bdP r' k' := by
  subst h
  cases r with
  | inl x => exact hk x rfl
  | inr b => rfl
theorem smT_fuel : ∀ d d' a, a ≤ n → tks f n a = a → n - a < d → n - a < d' → smTl f n d a = smTl f n d' a := by
  intro d
  induction d with
  | zero => intro d' a _ _ h; omega
  | succ d ih =>
    intro d' a ha ht h h'
    cases d' with
    | zero => omega
    | succ d' =>
      unfold smTl
      by_cases hs : sgn f n a 43 = true
      · rw [if_pos hs, if_pos hs]
        refine bdP_cg rfl fun x hx => ?_
        have hgt := nxt_gt (sgn_k hs)
        have hle := nxt_le (f := f) ha
        obtain ⟨h1, h2, h3⟩ := ptP_adv hle x hx
        rw [ih d' x.2 h2 h3 (by omega) (by omega)]
      · rw [if_neg hs, if_neg hs]
/-- how much a mode wants -/
def rkP (m : Nat) : Nat := if m = 0 then 1 else if m = 1 then 2 else if m = 3 then 3 else 0
theorem LPf_fuel : ∀ d d' m a k, a ≤ n → tks f n a = a → 4 * (n - a) + rkP m < d → 4 * (n - a) + rkP m < d' → LPf f n d m a k = LPf f n d' m a k := by
  intro d
  induction d with
  | zero => intro d' m a k _ _ h; omega
  | succ d ih =>
    intro d' m a k ha ht h h'
    cases d' with
    | zero => omega
    | succ d' =>
      match m with
      | 0 =>
        have e0 : rkP 0 = 1 := rfl
        unfold LPf
        by_cases hs : sgn f n a 40 = true
        · rw [if_pos hs, if_pos hs]
          have hgt := nxt_gt (sgn_k hs)
          have hle := nxt_le (f := f) ha
          have e3 : rkP 3 = 3 := rfl
          by_cases hk : k = 6
          · rw [if_pos hk, if_pos hk]
          · rw [if_neg hk, if_neg hk, ih d' 3 _ _ hle nxt_tk (by omega) (by omega)]
        · rw [if_neg hs, if_neg hs]
          by_cases hw : wdm f n a bNo = true
          · rw [if_pos hw, if_pos hw]
            have hgt := nxt_gt (wdm_n0 hw)
            have hle := nxt_le (f := f) ha
            by_cases hk : k = 6
            · rw [if_pos hk, if_pos hk]
            · rw [if_neg hk, if_neg hk, ih d' 0 _ _ hle nxt_tk (by omega) (by omega)]
          · rw [if_neg hw, if_neg hw]
      | 1 =>
        have e1 : rkP 1 = 2 := rfl
        have e0 : rkP 0 = 1 := rfl
        have e2 : rkP 2 = 0 := rfl
        unfold LPf
        refine bdP_cg (ih d' 0 a k ha ht (by omega) (by omega)) fun x hx => ?_
        obtain ⟨h1, h2, h3⟩ := LPf_adv d 0 a k ha ht x hx
        rw [if_neg (by omega)] at h1
        rw [ih d' 2 x.2 k h2 h3 (by omega) (by omega)]
      | 2 =>
        have e0 : rkP 0 = 1 := rfl
        have e2 : rkP 2 = 0 := rfl
        unfold LPf
        by_cases hw : wdm f n a bAn = true
        · rw [if_pos hw, if_pos hw]
          have hgt := nxt_gt (wdm_n0 hw)
          have hle := nxt_le (f := f) ha
          refine bdP_cg (ih d' 0 _ k hle nxt_tk (by omega) (by omega)) fun x hx => ?_
          obtain ⟨h1, h2, h3⟩ := LPf_adv d 0 _ k hle nxt_tk x hx
          rw [if_neg (by omega)] at h1
          rw [ih d' 2 x.2 k h2 h3 (by omega) (by omega)]
        · rw [if_neg hw, if_neg hw]
      | 3 =>
        have e1 : rkP 1 = 2 := rfl
        have e3 : rkP 3 = 3 := rfl
        have e4 : rkP 4 = 0 := rfl
        unfold LPf
        refine bdP_cg (ih d' 1 a k ha ht (by omega) (by omega)) fun x hx => ?_
        obtain ⟨h1, h2, h3⟩ := LPf_adv d 1 a k ha ht x hx
        rw [if_neg (by omega)] at h1
        rw [ih d' 4 x.2 k h2 h3 (by omega) (by omega)]
      | m + 4 =>
        have e1 : rkP 1 = 2 := rfl
        have e4 : rkP 4 = 0 := rfl
        unfold LPf
        by_cases hw : wdm f n a bOr = true
        · rw [if_pos hw, if_pos hw]
          have hgt := nxt_gt (wdm_n0 hw)
          have hle := nxt_le (f := f) ha
          refine bdP_cg (ih d' 1 _ k hle nxt_tk (by omega) (by omega)) fun x hx => ?_
          obtain ⟨h1, h2, h3⟩ := LPf_adv d 1 _ k hle nxt_tk x hx
          rw [if_neg (by omega)] at h1
          rw [ih d' 4 x.2 k h2 h3 (by omega) (by omega)]
        · rw [if_neg hw, if_neg hw]
end LWQ
/-! without fuel -/
def smU (f : Nat → Int32) (n a : Nat) : PRt CLs := smTl f n (n + 1) a
def LPu (f : Nat → Int32) (n m a k : Nat) : PRt CLs := LPf f n (4 * n + 10) m a k
section LWU
variable {f : Nat → Int32} {n a k : Nat}
theorem smU_eq (ha : a ≤ n) (ht : tks f n a = a) : smU f n a = if sgn f n a 43 = true then bdP (ptP f n (nxt f n a)) fun c b => preP (c ++ [-9]) (smU f n b) else .inl ([], a) := by
  have e : smU f n a = smTl f n (n + 2) a := smT_fuel _ _ a ha ht (by omega) (by omega)
  rw [e]
  show (if sgn f n a 43 = true then _ else _) = _
  by_cases hs : sgn f n a 43 = true
  · rw [if_pos hs, if_pos hs]; rfl
  · rw [if_neg hs, if_neg hs]
theorem LPu_f {m d : Nat} (ha : a ≤ n) (ht : tks f n a = a) (h : 4 * (n - a) + rkP m < d) : LPf f n d m a k = LPu f n m a k := LPf_fuel _ _ m a k ha ht h (by unfold rkP; split <;> (try split) <;> (try split) <;> omega)
theorem LPu_adv {m : Nat} (ha : a ≤ n) (ht : tks f n a = a) : Adv f n (LPu f n m a k) (if m = 2 ∨ 4 ≤ m then a else a + 1) := LPf_adv _ m a k ha ht
theorem LPu_0 (ha : a ≤ n) (ht : tks f n a = a) : LPu f n 0 a k = if sgn f n a 40 = true then (if k = 6 then .inr a else bdP (LPu f n 3 (nxt f n a) (k + 1)) fun c b => if sgn f n b 41 = true then .inl (c, nxt f n b) else .inr b)
    else if wdm f n a bNo = true then (if k = 6 then .inr a else bdP (LPu f n 0 (nxt f n a) (k + 1)) fun c b => .inl (c ++ [-12], b)) else fcP f n a := by
  have e : LPu f n 0 a k = LPf f n (4 * n + 11) 0 a k := (LPu_f ha ht (by show 4 * (n - a) + 1 < _; omega)).symm
  rw [e]
  show (if sgn f n a 40 = true then _ else _) = _
  by_cases hs : sgn f n a 40 = true
  · rw [if_pos hs, if_pos hs]; rfl
  · rw [if_neg hs, if_neg hs]
    by_cases hw : wdm f n a bNo = true
    · rw [if_pos hw, if_pos hw]; rfl
    · rw [if_neg hw, if_neg hw]
theorem LPu_1 (ha : a ≤ n) (ht : tks f n a = a) : LPu f n 1 a k = bdP (LPu f n 0 a k) fun c b => preP c (LPu f n 2 b k) := by
  have e : LPu f n 1 a k = LPf f n (4 * n + 11) 1 a k := (LPu_f ha ht (by show 4 * (n - a) + 2 < _; omega)).symm
  rw [e]; rfl
theorem LPu_2 (ha : a ≤ n) (ht : tks f n a = a) : LPu f n 2 a k = if wdm f n a bAn = true then bdP (LPu f n 0 (nxt f n a) k) fun c b => preP (c ++ [-13]) (LPu f n 2 b k) else .inl ([], a) := by
  have e : LPu f n 2 a k = LPf f n (4 * n + 11) 2 a k := (LPu_f ha ht (by show 4 * (n - a) + 0 < _; omega)).symm
  rw [e]
  show (if wdm f n a bAn = true then _ else _) = _
  by_cases hw : wdm f n a bAn = true
  · rw [if_pos hw, if_pos hw]; rfl
  · rw [if_neg hw, if_neg hw]
theorem LPu_3 (ha : a ≤ n) (ht : tks f n a = a) : LPu f n 3 a k = bdP (LPu f n 1 a k) fun c b => preP c (LPu f n 4 b k) := by
  have e : LPu f n 3 a k = LPf f n (4 * n + 11) 3 a k := (LPu_f ha ht (by show 4 * (n - a) + 3 < _; omega)).symm
  rw [e]; rfl
theorem LPu_4 (ha : a ≤ n) (ht : tks f n a = a) : LPu f n 4 a k = if wdm f n a bOr = true then bdP (LPu f n 1 (nxt f n a) k) fun c b => preP (c ++ [-14]) (LPu f n 4 b k) else .inl ([], a) := by
  have e : LPu f n 4 a k = LPf f n (4 * n + 11) 4 a k := (LPu_f ha ht (by show 4 * (n - a) + 0 < _; omega)).symm
  rw [e]
  show (if wdm f n a bOr = true then _ else _) = _
  by_cases hw : wdm f n a bOr = true
  · rw [if_pos hw, if_pos hw]; rfl
  · rw [if_neg hw, if_neg hw]
end LWU
