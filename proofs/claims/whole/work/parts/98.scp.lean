/-! a school's text: what each line does -/
abbrev PRt (α : Type) : Type := (α × Nat) ⊕ Nat
def bTh : List Int32 := [116, 104, 105, 110, 103]
def bPe : List Int32 := [112, 101, 114, 115, 111, 110]
def bFo : List Int32 := [102, 111, 108, 108, 111, 119]
def bSa : List Int32 := [115, 97, 105, 100]
def bAb : List Int32 := [97, 98, 115, 101, 110, 116]
def bLo : List Int32 := [108, 111, 117, 100]
def bEa : List Int32 := [101, 97, 114]
def bSt : List Int32 := [115, 116, 97, 109, 109, 101, 114]
def bKn : List Int32 := [107, 110, 111, 119, 115]
def adT (w : WD) (k : Nat) : WD := (fun j => if j = 9 + th w then nI k else if j = 0 then nI (th w + 1) else w.1 j, w.2)
/-- the next person's numbers, not counted yet -/
def psW (w : WD) (x y e s kn : Int32) : WD := (fun j => if j = 19 + 6 * pe w then x else if j = 20 + 6 * pe w then y else if j = 21 + 6 * pe w then e else if j = 22 + 6 * pe w then s else if j = 23 + 6 * pe w then kn else if j = 24 + 6 * pe w then 0 else w.1 j, w.2)
def cnP (w : WD) : WD := (upd w.1 1 (nI (pe w + 1)), w.2)
def adP (w : WD) (x y e s kn : Int32) : WD := cnP (psW w x y e s kn)
def adR (w : WD) (a b c : Int32) : WD := (fun j => if j = 79 + 3 * ru w then a else if j = 80 + 3 * ru w then b else if j = 81 + 3 * ru w then c else if j = 2 then nI (ru w + 1) else w.1 j, w.2)
def adL (w : WD) (x : Int32) : WD := (upd w.1 6 x, w.2)
def sat (w : WD) (x y : Int32) : Bool := decide (∃ p, p < pe w ∧ pf w p 0 = x ∧ pf w p 1 = y)
def thL (f : Nat → Int32) (n : Nat) (w : WD) : Nat → Nat → Int32 → PRt Int32
  | 0, a, _ => .inr a
  | d + 1, a, acc => if nok f n a 0 (nI (th w) - 1) = true then (if kd f n (nxt f n a) = 2 then thL f n w d (nxt f n a) (acc ||| ((1 : Int32) <<< (nb f n a &&& 31))) else .inl (acc ||| ((1 : Int32) <<< (nb f n a &&& 31)), nxt f n a)) else .inr a
def bdP {α β : Type} (r : PRt α) (k : α → Nat → PRt β) : PRt β := match r with
  | .inl x => k x.1 x.2
  | .inr b => .inr b
def tnP (f : Nat → Int32) (n a : Nat) (lo hi : Int32) : PRt Int32 := if nok f n a lo hi = true then .inl (nb f n a, nxt f n a) else .inr a
def twP (f : Nat → Int32) (n a : Nat) (bs : List Int32) : PRt Unit := if wdm f n a bs = true then .inl ((), nxt f n a) else .inr a
def lnTh (f : Nat → Int32) (n : Nat) (w : WD) (a : Nat) : PRt WD := if th w < 10 then bdP (tnP f n (nxt f n a) 1 6) fun k b => .inl (adT w (nx k), b) else .inr a
def lnP2 (f : Nat → Int32) (n : Nat) (w : WD) (x y : Int32) (a : Nat) : PRt WD := bdP (twP f n a bEa) fun _ a1 => bdP (tnP f n a1 0 9) fun e a2 => bdP (twP f n a2 bSt) fun _ a3 => bdP (tnP f n a3 0 100) fun s a4 =>
  if wdm f n a4 bKn = true then bdP (thL f n w (n + 1) (nxt f n a4) 0) fun kn a5 => .inl (adP w x y e s kn, a5) else .inl (adP w x y e s 0, a4)
def lnPe (f : Nat → Int32) (n : Nat) (w : WD) (a : Nat) : PRt WD := if pe w < 10 then bdP (tnP f n (nxt f n a) 0 9) fun x a1 => if nok f n a1 0 9 = true ∧ sat w x (nb f n a1) = false then lnP2 f n w x (nb f n a1) (nxt f n a1) else .inr a1 else .inr a
def lnFo (f : Nat → Int32) (n : Nat) (w : WD) (a : Nat) : PRt WD := if ru w < 12 then bdP (tnP f n (nxt f n a) 0 (nI (th w) - 1)) fun x a1 => bdP (tnP f n a1 0 (nI (th w) - 1)) fun y a2 => bdP (tnP f n a2 0 (nI (th w) - 1)) fun z a3 => .inl (adR w x y z, a3) else .inr a
def lnSa (f : Nat → Int32) (n : Nat) (w : WD) (a : Nat) : PRt WD := bdP (tnP f n a 0 (nI (th w) - 1)) fun t a1 => bdP (tnP f n a1 0 (nI (wo w (nx t)) - 1)) fun q a2 => .inl (stW w (nx t) (nx q), a2)
def lnAb (f : Nat → Int32) (n : Nat) (w : WD) (a : Nat) : PRt WD := bdP (tnP f n a 0 (nI (pe w) - 1)) fun p a1 => .inl (abW w (nx p) true, a1)
def lnLo (f : Nat → Int32) (n : Nat) (w : WD) (a : Nat) : PRt WD := bdP (tnP f n a 0 9) fun x a1 => .inl (adL w x, a1)
def lnS (f : Nat → Int32) (n : Nat) (w : WD) (a : Nat) : PRt WD := if wdm f n a bTh = true then lnTh f n w a else if wdm f n a bPe = true then lnPe f n w a else if wdm f n a bFo = true then lnFo f n w a else if wdm f n a bSa = true then lnSa f n w (nxt f n a) else if wdm f n a bAb = true then lnAb f n w (nxt f n a) else if wdm f n a bLo = true then lnLo f n w (nxt f n a) else .inr a
/-- lines: how many may still come, how many came -/
def lnsS (f : Nat → Int32) (n : Nat) : Nat → WD → Nat → PRt WD
  | 0, _, a => .inr a
  | d + 1, w, a => bdP (lnS f n w a) fun w' a' => if n ≤ a' then .inl (w', a') else if sgn f n a' 59 = true then lnsS f n d w' (nxt f n a') else .inr a'
def rdS (f : Nat → Int32) (n : Nat) (w : WD) : PRt WD := if n ≤ tks f n 0 then .inl (w, tks f n 0) else lnsS f n 14 w (tks f n 0)
/-- a right world, nobody sits where another sits -/
def OKW (w : WD) : Prop := WF w ∧ DS w
section SCP
variable {f : Nat → Int32} {n a : Nat} {w : WD}
theorem nok_b {m lo : Nat} (hm : m < 2 ^ 30) (hl : lo < 2 ^ 30) (h : nok f n a (nI lo) (nI m) = true) : ∃ k, lo ≤ k ∧ k ≤ m ∧ nb f n a = nI k := by
  unfold nok at h
  simp only [Bool.and_eq_true, decide_eq_true_eq] at h
  rcases ix_cs (n := m + 1) (by omega) (nb f n a) with ⟨-, h2⟩ | ⟨k, hk, e, -⟩
  · rcases h2 with h2 | h2
    · exact absurd (Int32.le_trans (nI_pos' (by omega)) h.2.1) (Int32.not_le.mpr h2)
    · exact absurd (Int32.le_trans h2 h.2.2) (nI_ge (a := m) (by omega) (by omega))
  · rw [e, nI_leI (by omega) (by omega)] at h
    exact ⟨k, h.2.1, by omega, e⟩
theorem nok_p {m : Nat} (hm : m < 2 ^ 30) (h : nok f n a 0 (nI m - 1) = true) : ∃ k, k < m ∧ nb f n a = nI k := by
  cases m with
  | zero =>
    unfold nok at h
    simp only [Bool.and_eq_true, decide_eq_true_eq] at h
    exact absurd (Int32.le_trans h.2.1 h.2.2) (by decide)
  | succ m =>
    rw [nI_pred] at h
    obtain ⟨k, -, h1, h2⟩ := nok_b (lo := 0) (by omega) (by omega) h
    exact ⟨k, by omega, h2⟩
theorem adT_lo {k j : Nat} (h0 : j ≠ 0) (h9 : j ≠ 9 + th w) : (adT w k).1 j = w.1 j := by
  show (if j = 9 + th w then nI k else if j = 0 then nI (th w + 1) else w.1 j) = _
  rw [if_neg h9, if_neg h0]
theorem adT_th {k : Nat} (h : th w < 10) : th (adT w k) = th w + 1 := by
  show nx (if (0 : Nat) = 9 + th w then nI k else if (0 : Nat) = 0 then nI (th w + 1) else w.1 0) = _
  rw [if_neg (by omega), if_pos rfl, nx_nI (by omega)]
theorem adT_wo {k t : Nat} (hk : k ≤ 6) : wo (adT w k) t = if t = th w then k else wo w t := by
  show nx ((adT w k).1 (9 + t)) = _
  by_cases h : t = th w
  · rw [if_pos h]
    show nx (if 9 + t = 9 + th w then nI k else _) = _
    rw [if_pos (by omega), nx_nI (by omega)]
  · rw [if_neg h, adT_lo (by omega) (by omega)]; rfl
theorem adT_WF {k : Nat} (h : WF w) (ht : th w < 10) (hk1 : 1 ≤ k) (hk : k ≤ 6) : WF (adT w k) := by
  obtain ⟨⟨k1, k2, k3, k4, k5, k6, k7, k8, k9, k10, k11, k12⟩, hl⟩ := h
  have lo : ∀ j, j ≠ 0 → j ≠ 9 + th w → (adT w k).1 j = w.1 j := fun j => adT_lo
  have et := adT_th (k := k) ht
  have e1 : pe (adT w k) = pe w := congrArg nx (lo 1 (by omega) (by omega))
  have e2 : ru (adT w k) = ru w := congrArg nx (lo 2 (by omega) (by omega))
  have e7 : lg (adT w k) = lg w := congrArg nx (lo 7 (by omega) (by omega))
  have elw : ∀ r c, lw (adT w k) r c = lw w r c := fun r c => lo _ (by omega) (by omega)
  have epf : ∀ p c, pf (adT w k) p c = pf w p c := fun p c => lo _ (by omega) (by omega)
  have eln : ∀ a c, ln (adT w k) a c = ln w a c := fun a c => lo _ (by omega) (by omega)
  have ecod : cod (adT w k) = cod w := by funext i; unfold cod; rw [lo _ (by omega) (by omega), lo (1065 + 2 * i) (by omega) (by omega)]
  have eli : li (adT w k) = li w := by unfold li; rw [lo 4 (by omega) (by omega), lo 1015 (by omega) (by omega)]
  refine ⟨⟨⟨th w + 1, by omega, ?_⟩, ?_, ?_, ?_, ?_, ?_, ?_, ?_, ?_, ?_, ?_, ?_⟩, ?_⟩
  · show (if (0 : Nat) = 9 + th w then nI k else if (0 : Nat) = 0 then nI (th w + 1) else w.1 0) = _
    rw [if_neg (by omega), if_pos rfl]
  · rw [lo 1 (by omega) (by omega)]; exact k2
  · rw [lo 2 (by omega) (by omega)]; exact k3
  · rw [lo 3 (by omega) (by omega)]; exact k4
  · rw [lo 6 (by omega) (by omega)]; exact k5
  · rw [lo 7 (by omega) (by omega)]; exact k6
  · intro t ht'
    by_cases q : t = th w
    · refine ⟨k, hk, ?_, fun _ => hk1, fun h2 => by rw [et] at h2; omega⟩
      show (if 9 + t = 9 + th w then nI k else _) = _
      rw [if_pos (by omega)]
    · obtain ⟨m, m1, m2, m3, m4⟩ := k7 t ht'
      refine ⟨m, m1, by rw [lo _ (by omega) (by omega)]; exact m2, fun h2 => m3 (by rw [et] at h2; omega), fun h2 => m4 (by rw [et] at h2; omega)⟩
  · intro p hp
    obtain ⟨p1, p2, p3, p4, p5, p6, p7⟩ := k8 p hp
    unfold WFp
    rw [epf, epf, epf, epf, epf, epf, et, e1]
    exact ⟨p1, p2, p3, p4, fun i hi hi2 => p5 i (by omega) hi2, p6, p7⟩
  · intro r hr j hj
    rw [e2] at hr
    obtain ⟨m, m1, m2⟩ := k9 r hr j hj
    exact ⟨m, by rw [et]; omega, by rw [lo _ (by omega) (by omega)]; exact m2⟩
  · intro t ht' q hq hs
    have := k10 t ht' q hq hs
    rw [adT_wo hk]
    by_cases e : t = th w
    · rw [if_pos e]
      obtain ⟨m, m1, m2, m3, m4⟩ := k7 t ht'
      have hw0 : wo w t = 0 := by show nx (w.1 (9 + t)) = 0; rw [m2, m4 (by omega)]; rfl
      omega
    · rw [if_neg e]; exact this
  · rw [e7]; exact k11
  · intro r hr
    rw [e7] at hr
    obtain ⟨r1, ⟨m, m1, m2⟩, r3, r4, r5⟩ := k12 r hr
    unfold WFr
    rw [elw, elw, elw, elw, et, e1]
    refine ⟨r1, ⟨m, by omega, m2⟩, r3, r4, fun p hp => ?_⟩
    rw [elw]
    obtain ⟨s1, s2⟩ := r5 p hp
    exact ⟨fun hb => by obtain ⟨m, m1, m2⟩ := s1 hb; exact ⟨m, by omega, m2⟩, s2⟩
  · unfold WFl TYl lst len at *
    rw [ecod, eli, lo 4 (by omega) (by omega), lo 1015 (by omega) (by omega)]
    refine ⟨hl.1, hl.2.1, fun a ha => ?_⟩
    have := hl.2.2 a ha
    rw [eln, eln, eln, eln, eln]
    obtain ⟨l1, l2, l3, l4, l5, l6⟩ := this
    exact ⟨l1, l2, l3, l4, l5, fun i hi => by rw [lo _ (by omega) (by omega), lo (1065 + 2 * i) (by omega) (by omega)]; exact l6 i hi⟩
theorem DS_of {v : WD} (h : DS w) (ep : pe v = pe w) (e : ∀ p c, c < 2 → pf v p c = pf w p c) : DS v := fun p q h1 h2 => by
  rw [ep] at h1
  rw [e p 0 (by omega), e q 0 (by omega), e p 1 (by omega), e q 1 (by omega)]; exact h p q h1 h2
theorem psW_pf {x y e s kn : Int32} {p c : Nat} (hc : c < 6) : pf (psW w x y e s kn) p c = if p = pe w then (if c = 0 then x else if c = 1 then y else if c = 2 then e else if c = 3 then s else if c = 4 then kn else 0) else pf w p c := by
  show (if 19 + 6 * p + c = 19 + 6 * pe w then x else if 19 + 6 * p + c = 20 + 6 * pe w then y else if 19 + 6 * p + c = 21 + 6 * pe w then e else if 19 + 6 * p + c = 22 + 6 * pe w then s else if 19 + 6 * p + c = 23 + 6 * pe w then kn else if 19 + 6 * p + c = 24 + 6 * pe w then 0 else w.1 (19 + 6 * p + c)) = _
  by_cases h : p = pe w
  · rw [if_pos h]
    subst h
    by_cases c0 : c = 0
    · rw [if_pos (by omega), if_pos c0]
    · rw [if_neg (by omega), if_neg c0]
      by_cases c1 : c = 1
      · rw [if_pos (by omega), if_pos c1]
      · rw [if_neg (by omega), if_neg c1]
        by_cases c2 : c = 2
        · rw [if_pos (by omega), if_pos c2]
        · rw [if_neg (by omega), if_neg c2]
          by_cases c3 : c = 3
          · rw [if_pos (by omega), if_pos c3]
          · rw [if_neg (by omega), if_neg c3]
            by_cases c4 : c = 4
            · rw [if_pos (by omega), if_pos c4]
            · rw [if_neg (by omega), if_neg c4, if_pos (by omega)]
  · rw [if_neg h, if_neg (by omega), if_neg (by omega), if_neg (by omega), if_neg (by omega), if_neg (by omega), if_neg (by omega)]; rfl
theorem psW_o {x y e s kn : Int32} {j : Nat} (h : ¬ (19 + 6 * pe w ≤ j ∧ j ≤ 24 + 6 * pe w)) : (psW w x y e s kn).1 j = w.1 j := by
  show (if j = 19 + 6 * pe w then x else if j = 20 + 6 * pe w then y else if j = 21 + 6 * pe w then e else if j = 22 + 6 * pe w then s else if j = 23 + 6 * pe w then kn else if j = 24 + 6 * pe w then 0 else w.1 j) = _
  rw [if_neg (by omega), if_neg (by omega), if_neg (by omega), if_neg (by omega), if_neg (by omega), if_neg (by omega)]
/-- a world whose people's numbers alone are other -/
theorem WF_ppl {v : WD} (h : WF w) (h2 : v.2 = w.2) (hp10 : pe w < 10) (e : ∀ j, ¬ (19 ≤ j ∧ j < 79) → j ≠ 1 → v.1 j = w.1 j) (e1 : v.1 1 = w.1 1 ∨ v.1 1 = nI (pe w + 1)) (hp : ∀ p, p < 10 → WFp v p) : WF v := by
  obtain ⟨⟨k1, k2, k3, k4, k5, k6, k7, k8, k9, k10, k11, k12⟩, hl⟩ := h
  have e0 : th v = th w := congrArg nx (e 0 (by omega) (by omega))
  have e2 : ru v = ru w := congrArg nx (e 2 (by omega) (by omega))
  have e7 : lg v = lg w := congrArg nx (e 7 (by omega) (by omega))
  have ep : pe w ≤ pe v := by
    rcases e1 with h | h
    · exact Nat.le_of_eq (congrArg nx h).symm
    · have : pe v = pe w + 1 := by show nx (v.1 1) = _; rw [h, nx_nI (by omega)]
      omega
  have elw : ∀ r c, lw v r c = lw w r c := fun r c => e _ (by omega) (by omega)
  have eln : ∀ a c, ln v a c = ln w a c := fun a c => e _ (by omega) (by omega)
  have ewo : ∀ t, t < 10 → wo v t = wo w t := fun t ht => congrArg nx (e _ (by omega) (by omega))
  have ecod : cod v = cod w := by funext i; unfold cod; rw [e _ (by omega) (by omega), e (1065 + 2 * i) (by omega) (by omega)]
  have eli : li v = li w := by unfold li; rw [e 4 (by omega) (by omega), e 1015 (by omega) (by omega)]
  refine ⟨⟨?_, ?_, ?_, ?_, ?_, ?_, ?_, hp, ?_, ?_, ?_, ?_⟩, ?_⟩
  · rw [e 0 (by omega) (by omega)]; exact k1
  · rcases e1 with h | h
    · rw [h]; exact k2
    · rw [h]; exact ⟨pe w + 1, by omega, rfl⟩
  · rw [e 2 (by omega) (by omega)]; exact k3
  · rw [e 3 (by omega) (by omega)]; exact k4
  · rw [e 6 (by omega) (by omega)]; exact k5
  · rw [e 7 (by omega) (by omega)]; exact k6
  · intro t ht
    rw [e _ (by omega) (by omega), e0]; exact k7 t ht
  · intro r hr j hj
    rw [e2] at hr
    obtain ⟨m, m1, m2⟩ := k3
    have : ru w = m := by show nx (w.1 2) = m; rw [m2, nx_nI (by omega)]
    rw [e _ (by omega) (by omega), e0]; exact k9 r hr j hj
  · intro t ht q hq
    unfold sai; rw [h2, ewo t ht]; exact k10 t ht q hq
  · rw [h2, e7]; exact k11
  · intro r hr
    rw [e7] at hr
    obtain ⟨⟨m, m1, m2⟩, r2, r3, r4, r5⟩ := k12 r hr
    unfold WFr
    rw [elw, elw, elw, elw, e0]
    exact ⟨⟨m, by omega, m2⟩, r2, fun i hi hi2 => r3 i (by omega) hi2, r4, fun p hp => by rw [elw]; exact r5 p hp⟩
  · unfold WFl TYl lst len at *
    rw [ecod, eli, e 4 (by omega) (by omega), e 1015 (by omega) (by omega)]
    refine ⟨hl.1, hl.2.1, fun a ha => ?_⟩
    have := hl.2.2 a ha
    rw [eln, eln, eln, eln, eln]
    obtain ⟨l1, l2, l3, l4, l5, l6⟩ := this
    exact ⟨l1, l2, l3, l4, l5, fun i hi => by rw [e _ (by omega) (by omega), e (1065 + 2 * i) (by omega) (by omega)]; exact l6 i hi⟩
/-- numbers that a person may have -/
def pOK (w : WD) (x y e s kn : Int32) : Prop := (∃ k, k ≤ 9 ∧ x = nI k) ∧ (∃ k, k ≤ 9 ∧ y = nI k) ∧ (∃ k, k ≤ 9 ∧ e = nI k) ∧ (∃ k, k ≤ 100 ∧ s = nI k) ∧ ∀ i, th w ≤ i → i < 32 → bt kn i = false
theorem psW_WF {x y e s kn : Int32} (h : WF w) (hp : pe w < 10) (ho : pOK w x y e s kn) : WF (psW w x y e s kn) := by
  have e1 : (psW w x y e s kn).1 1 = w.1 1 := psW_o (by omega)
  refine WF_ppl h rfl hp (fun j h1 h2 => psW_o (by omega)) (Or.inl e1) fun p hp2 => ?_
  have e0 : th (psW w x y e s kn) = th w := congrArg nx (psW_o (by omega))
  have ep : pe (psW w x y e s kn) = pe w := congrArg nx e1
  obtain ⟨p1, p2, p3, p4, p5, p6, p7⟩ := h.1.2.2.2.2.2.2.2.1 p hp2
  unfold WFp
  rw [e0, ep]
  rw [psW_pf (c := 0) (by omega), psW_pf (c := 1) (by omega), psW_pf (c := 2) (by omega), psW_pf (c := 3) (by omega), psW_pf (c := 4) (by omega), psW_pf (c := 5) (by omega)]
  by_cases q : p = pe w
  · simp only [if_pos q]
    exact ⟨ho.1, ho.2.1, ho.2.2.1, ho.2.2.2.1, ho.2.2.2.2, Or.inl rfl, fun _ => rfl⟩
  · simp only [if_neg q]
    exact ⟨p1, p2, p3, p4, p5, p6, p7⟩
theorem adP_pf {x y e s kn : Int32} {p c : Nat} (hc : c < 6) : pf (adP w x y e s kn) p c = if p = pe w then (if c = 0 then x else if c = 1 then y else if c = 2 then e else if c = 3 then s else if c = 4 then kn else 0) else pf w p c := (upd_n (by omega)).trans (psW_pf hc)
theorem adP_1 {x y e s kn : Int32} : (adP w x y e s kn).1 1 = nI (pe w + 1) := by
  have e1 : pe (psW w x y e s kn) = pe w := congrArg nx (psW_o (by omega))
  have : (adP w x y e s kn).1 1 = nI (pe (psW w x y e s kn) + 1) := upd_s (f := (psW w x y e s kn).1) (k := 1)
  rw [this, e1]
theorem adP_o {x y e s kn : Int32} {j : Nat} (h1 : j ≠ 1) (h2 : ¬ (19 + 6 * pe w ≤ j ∧ j ≤ 24 + 6 * pe w)) : (adP w x y e s kn).1 j = w.1 j := (upd_n (f := (psW w x y e s kn).1) h1).trans (psW_o h2)
theorem adP_pe {x y e s kn : Int32} (hp : pe w < 10) : pe (adP w x y e s kn) = pe w + 1 := by
  show nx ((adP w x y e s kn).1 1) = _
  rw [adP_1, nx_nI (by omega)]
theorem adP_WF {x y e s kn : Int32} (h : WF w) (hp : pe w < 10) (ho : pOK w x y e s kn) : WF (adP w x y e s kn) := by
  refine WF_ppl h rfl hp (fun j h1 h2 => adP_o h2 (by omega)) (Or.inr adP_1) fun p hp2 => ?_
  have e0 : th (adP w x y e s kn) = th w := congrArg nx (adP_o (by omega) (by omega))
  obtain ⟨p1, p2, p3, p4, p5, p6, p7⟩ := h.1.2.2.2.2.2.2.2.1 p hp2
  unfold WFp
  rw [e0, adP_pe hp]
  rw [adP_pf (c := 0) (by omega), adP_pf (c := 1) (by omega), adP_pf (c := 2) (by omega), adP_pf (c := 3) (by omega), adP_pf (c := 4) (by omega), adP_pf (c := 5) (by omega)]
  by_cases q : p = pe w
  · simp only [if_pos q]
    exact ⟨ho.1, ho.2.1, ho.2.2.1, ho.2.2.2.1, ho.2.2.2.2, Or.inl rfl, fun _ => rfl⟩
  · simp only [if_neg q]
    exact ⟨p1, p2, p3, p4, p5, p6, fun h2 => p7 (by omega)⟩
theorem adP_DS {x y e s kn : Int32} (h : DS w) (hp : pe w < 10) (hs : sat w x y = false) : DS (adP w x y e s kn) := fun p q h1 h2 => by
  have hs := of_decide_eq_false hs
  rw [adP_pe hp] at h1
  rw [adP_pf (c := 0) (by omega), adP_pf (c := 0) (by omega), adP_pf (c := 1) (by omega), adP_pf (c := 1) (by omega)]
  rw [if_neg (show ¬ q = pe w by omega), if_neg (show ¬ q = pe w by omega)]
  by_cases e : p = pe w
  · rw [if_pos e, if_pos e]
    intro hh
    exact hs ⟨q, by omega, hh.1.symm, hh.2.symm⟩
  · rw [if_neg e, if_neg e]
    exact h p q (by omega) h2
theorem adR_o {x y z : Int32} {j : Nat} (h2 : j ≠ 2) (h : ¬ (79 + 3 * ru w ≤ j ∧ j ≤ 81 + 3 * ru w)) : (adR w x y z).1 j = w.1 j := by
  show (if j = 79 + 3 * ru w then x else if j = 80 + 3 * ru w then y else if j = 81 + 3 * ru w then z else if j = 2 then nI (ru w + 1) else w.1 j) = _
  rw [if_neg (by omega), if_neg (by omega), if_neg (by omega), if_neg h2]
theorem adR_WF {x y z : Nat} (h : WF w) (hr : ru w < 12) (hx : x < th w) (hy : y < th w) (hz : z < th w) : WF (adR w (nI x) (nI y) (nI z)) := by
  obtain ⟨⟨k1, k2, k3, k4, k5, k6, k7, k8, k9, k10, k11, k12⟩, hl⟩ := h
  have e : ∀ j, j ≠ 2 → ¬ (79 ≤ j ∧ j < 115) → (adR w (nI x) (nI y) (nI z)).1 j = w.1 j := fun j h2 h => adR_o h2 (by omega)
  have e0 : th (adR w (nI x) (nI y) (nI z)) = th w := congrArg nx (e 0 (by omega) (by omega))
  have e1 : pe (adR w (nI x) (nI y) (nI z)) = pe w := congrArg nx (e 1 (by omega) (by omega))
  have r2 : (adR w (nI x) (nI y) (nI z)).1 2 = nI (ru w + 1) := by
    show (if 2 = 79 + 3 * ru w then nI x else if 2 = 80 + 3 * ru w then nI y else if 2 = 81 + 3 * ru w then nI z else if 2 = 2 then nI (ru w + 1) else w.1 2) = _
    rw [if_neg (by omega), if_neg (by omega), if_neg (by omega), if_pos rfl]
  have e2 : ru (adR w (nI x) (nI y) (nI z)) = ru w + 1 := by show nx _ = _; rw [r2, nx_nI (by omega)]
  have e7 : lg (adR w (nI x) (nI y) (nI z)) = lg w := congrArg nx (e 7 (by omega) (by omega))
  have elw : ∀ r c, lw (adR w (nI x) (nI y) (nI z)) r c = lw w r c := fun r c => e _ (by omega) (by omega)
  have eln : ∀ a c, ln (adR w (nI x) (nI y) (nI z)) a c = ln w a c := fun a c => e _ (by omega) (by omega)
  have ewo : ∀ t, t < 10 → wo (adR w (nI x) (nI y) (nI z)) t = wo w t := fun t ht => congrArg nx (e _ (by omega) (by omega))
  have ecod : cod (adR w (nI x) (nI y) (nI z)) = cod w := by funext i; unfold cod; rw [e _ (by omega) (by omega), e (1065 + 2 * i) (by omega) (by omega)]
  have eli : li (adR w (nI x) (nI y) (nI z)) = li w := by unfold li; rw [e 4 (by omega) (by omega), e 1015 (by omega) (by omega)]
  have epf : ∀ p c, p < 10 → c < 6 → pf (adR w (nI x) (nI y) (nI z)) p c = pf w p c := fun p c hp hc => e _ (by omega) (by omega)
  refine ⟨⟨?_, ?_, ⟨ru w + 1, by omega, r2⟩, ?_, ?_, ?_, ?_, ?_, ?_, ?_, ?_, ?_⟩, ?_⟩
  · rw [e 0 (by omega) (by omega)]; exact k1
  · rw [e 1 (by omega) (by omega)]; exact k2
  · rw [e 3 (by omega) (by omega)]; exact k4
  · rw [e 6 (by omega) (by omega)]; exact k5
  · rw [e 7 (by omega) (by omega)]; exact k6
  · intro t ht
    rw [e _ (by omega) (by omega), e0]; exact k7 t ht
  · intro p hp
    have := k8 p hp
    unfold WFp at *
    rw [epf p 0 hp (by omega), epf p 1 hp (by omega), epf p 2 hp (by omega), epf p 3 hp (by omega), epf p 4 hp (by omega), epf p 5 hp (by omega), e0, e1]; exact this
  · intro r hr2 j hj
    rw [e2] at hr2
    rw [e0]
    by_cases q : r = ru w
    · rw [q]
      match j, hj with
      | 0, _ => exact ⟨x, hx, if_pos rfl⟩
      | 1, _ => exact ⟨y, hy, by
          show (if 79 + 3 * ru w + 1 = 79 + 3 * ru w then nI x else if 79 + 3 * ru w + 1 = 80 + 3 * ru w then nI y else _) = _
          rw [if_neg (by omega), if_pos (by omega)]⟩
      | 2, _ => exact ⟨z, hz, by
          show (if 79 + 3 * ru w + 2 = 79 + 3 * ru w then nI x else if 79 + 3 * ru w + 2 = 80 + 3 * ru w then nI y else if 79 + 3 * ru w + 2 = 81 + 3 * ru w then nI z else _) = _
          rw [if_neg (by omega), if_neg (by omega), if_pos (by omega)]⟩
    · rw [adR_o (by omega) (by omega)]
      exact k9 r (by omega) j hj
  · intro t ht q hq
    unfold sai; rw [ewo t ht]; exact k10 t ht q hq
  · rw [e7]; exact k11
  · intro r hr2
    rw [e7] at hr2
    have := k12 r hr2
    unfold WFr at *
    simp only [elw, e0, e1]; exact this
  · unfold WFl TYl lst len at *
    rw [ecod, eli, e 4 (by omega) (by omega), e 1015 (by omega) (by omega)]
    refine ⟨hl.1, hl.2.1, fun a ha => ?_⟩
    have := hl.2.2 a ha
    rw [eln, eln, eln, eln, eln]
    obtain ⟨l1, l2, l3, l4, l5, l6⟩ := this
    exact ⟨l1, l2, l3, l4, l5, fun i hi => by rw [e _ (by omega) (by omega), e (1065 + 2 * i) (by omega) (by omega)]; exact l6 i hi⟩
/-- a number of the head (loud, texts) other -/
theorem hd_WF {v : WD} {c : Nat} (h : WF w) (hc : c = 6 ∨ c = 3) (h2 : v.2 = w.2) (e : ∀ j, j ≠ c → v.1 j = w.1 j) (hv : ∃ k, k ≤ 9 + (6 - c) ∧ v.1 c = nI k) : WF v := by
  obtain ⟨⟨k1, k2, k3, k4, k5, k6, k7, k8, k9, k10, k11, k12⟩, hl⟩ := h
  have e0 : th v = th w := congrArg nx (e 0 (by omega))
  have e1 : pe v = pe w := congrArg nx (e 1 (by omega))
  have e2 : ru v = ru w := congrArg nx (e 2 (by omega))
  have e7 : lg v = lg w := congrArg nx (e 7 (by omega))
  have elw : ∀ r c, lw v r c = lw w r c := fun r c => e _ (by omega)
  have eln : ∀ a c, ln v a c = ln w a c := fun a c => e _ (by omega)
  have epf : ∀ p c, pf v p c = pf w p c := fun p c => e _ (by omega)
  have ewo : ∀ t, wo v t = wo w t := fun t => congrArg nx (e _ (by omega))
  have ecod : cod v = cod w := by funext i; unfold cod; rw [e _ (by omega), e (1065 + 2 * i) (by omega)]
  have eli : li v = li w := by unfold li; rw [e 4 (by omega), e 1015 (by omega)]
  refine ⟨⟨?_, ?_, ?_, ?_, ?_, ?_, ?_, ?_, ?_, ?_, ?_, ?_⟩, ?_⟩
  · rw [e 0 (by omega)]; exact k1
  · rw [e 1 (by omega)]; exact k2
  · rw [e 2 (by omega)]; exact k3
  · rcases hc with hc | hc
    · rw [e 3 (by omega)]; exact k4
    · rw [hc] at hv; obtain ⟨k, a, b⟩ := hv; exact ⟨k, by omega, b⟩
  · rcases hc with hc | hc
    · rw [hc] at hv; obtain ⟨k, a, b⟩ := hv; exact ⟨k, by omega, b⟩
    · rw [e 6 (by omega)]; exact k5
  · rw [e 7 (by omega)]; exact k6
  · intro t ht
    rw [e _ (by omega), e0]; exact k7 t ht
  · intro p hp
    have := k8 p hp
    unfold WFp at *
    rw [epf, epf, epf, epf, epf, epf, e0, e1]; exact this
  · intro r hr j hj
    rw [e2] at hr
    rw [e _ (by omega), e0]; exact k9 r hr j hj
  · intro t ht q hq
    unfold sai; rw [h2, ewo t]; exact k10 t ht q hq
  · rw [h2, e7]; exact k11
  · intro r hr
    rw [e7] at hr
    have := k12 r hr
    unfold WFr at *
    simp only [elw, e0, e1]; exact this
  · unfold WFl TYl lst len at *
    rw [ecod, eli, e 4 (by omega), e 1015 (by omega)]
    refine ⟨hl.1, hl.2.1, fun a ha => ?_⟩
    have := hl.2.2 a ha
    rw [eln, eln, eln, eln, eln]
    obtain ⟨l1, l2, l3, l4, l5, l6⟩ := this
    exact ⟨l1, l2, l3, l4, l5, fun i hi => by rw [e _ (by omega), e (1065 + 2 * i) (by omega)]; exact l6 i hi⟩
end SCP
