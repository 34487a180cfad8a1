/-! what a saying does -/
def nsd (s : Int32) : Int32 := 1103515245 * s + 12345
def drw (s : Int32) : Nat := num ((s >>> ((16 : Int32) &&& 31)) &&& 32767)
def dW (w : WD) : WD := (upd w.1 8 (nsd (w.1 8)), w.2)
def stW (w : WD) (t q : Nat) : WD := (w.1, w.2 ||| ((1 : Int64) <<< ((nI (6 * t + q)).toInt64 &&& 63)))
/-- the log with a new row -/
def tlW (w : WD) (who s : Nat) (st : Bool) : WD := (fun j => if j = 7 then nI (lg w + 1) else if 130 ≤ j ∧ j < 1015 then w.1 (j - 15) else if j = 115 then w.1 5 else if j = 116 then nI who else if j = 117 then nI s else if j = 118 then 0 else if j = 119 then b2i st else if 120 ≤ j ∧ j < 130 then -1 else w.1 j, w.2)
def lrW (w : WD) (p a : Nat) : WD := if kno w p a then w else (upd (upd (upd w.1 (23 + 6 * p) (pf w p 4 ||| ((1 : Int32) <<< (nI a &&& 31)))) 118 (w.1 118 ||| ((1 : Int32) <<< (nI p &&& 31)))) (120 + p) (nI a), w.2)
def stm (w : WD) (who : Nat) : Bool := decide (nI (drw (w.1 8) % 100) < pf w who 3)
def tkn (w : WD) (who t q p : Nat) : Option Nat := if stm w who then none else tk0 w who t q p
def lrn (w : WD) (o : Nat → Option Nat) : Nat → WD
  | 0 => w
  | p + 1 => match o p with
    | none => lrn w o p
    | some a => lrW (lrn w o p) p a
/-- w: with the store and the draw already -/
def say1 (w : WD) (who t q : Nat) : WD := lrn (tlW w who (6 * t + q) (stm w who)) (tkn w who t q) (pe w)
def sayW (w : WD) (who t q : Nat) : WD := say1 (dW (stW w t q)) who t q
theorem drw_lt (s : Int32) : drw s < 32768 := by
  have := num_lt (x := (s >>> ((16 : Int32) &&& 31)) &&& 32767) (n := 15) (by decide) fun i h1 h2 => by
    rw [b_and]
    have : ∀ i, i < 32 → 15 ≤ i → bt 32767 i = false := by decide +kernel
    rw [this i h2 h1]; simp
  exact this
theorem drw_nI (s : Int32) : (s >>> ((16 : Int32) &&& 31)) &&& 32767 = nI (drw s) := (nI_num _).symm
theorem ush16 (s : Int32) : (ush s 16) &&& 32767 = (s >>> ((16 : Int32) &&& 31)) &&& 32767 := by
  apply b_ext; intro i hi
  rw [b_and, b_and]
  by_cases h : i < 15
  · have h1 : bt (ush s 16) i = bt s (16 + i) := b_ushr 16 (by decide) s i
    have h2 : bt (s >>> ((16 : Int32) &&& 31)) i = if 16 + i < 32 then bt s (16 + i) else bt s 31 := b_sshr 16 (by decide) s hi
    rw [h1, h2, if_pos (by omega)]
  · have : ∀ i, i < 32 → 15 ≤ i → bt 32767 i = false := by decide +kernel
    rw [this i hi (by omega)]; simp
section SAY
variable {w : WD}
theorem dW_ag : agS w (dW w) := fun j h5 h8 _ => upd_n h8
theorem dW_pf {p k : Nat} : pf (dW w) p k = pf w p k := upd_n (by omega)
theorem WFp_c {v : WD} (hv : agS w v) {p : Nat} (h : ∀ k, k < 6 → pf v p k = pf w p k) (k : WFp w p) : WFp v p := by
  unfold WFp at *
  rw [agS_th hv, agS_pe hv, h 0 (by omega), h 1 (by omega), h 2 (by omega), h 3 (by omega), h 4 (by omega), h 5 (by omega)]; exact k
theorem WF_d (h : WF w) : WF (dW w) := WF_ag dW_ag rfl (fun p hp => WFp_c dW_ag (fun k _ => dW_pf) (h.1.2.2.2.2.2.2.2.1 p hp)) h
theorem bl_st {t q i : Nat} (h : 6 * t + q < 64) (hi : i < 64) : bl (stW w t q).2 i = (bl w.2 i || decide (i = 6 * t + q)) := by
  show bl (w.2 ||| _) i = _
  rw [bl_or, bl_1s h hi]
theorem WF_st (h : WF w) {t q : Nat} (ht : t < 10) (hq : q < wo w t) : WF (stW w t q) := by
  have w6 := (wf_wo h.1 ht).2.1
  obtain ⟨⟨k1, k2, k3, k4, k5, k6, k7, k8, k9, k10, k11, k12⟩, l⟩ := h
  refine ⟨⟨k1, k2, k3, k4, k5, k6, k7, k8, k9, ?_, ?_, k12⟩, l⟩
  · intro t' ht' q' hq' hs
    unfold sai at hs
    rw [bl_st (by omega) (by omega)] at hs
    rw [Bool.or_eq_true] at hs
    rcases hs with hs | hs
    · exact k10 t' ht' q' hq' hs
    · have e : 6 * t' + q' = 6 * t + q := by simpa using hs
      have e1 : t' = t := by omega
      have e2 : q' = q := by omega
      rw [e1, e2]; exact hq
  · refine Nat.le_trans k11 (ct_mono fun i hi hb => ?_)
    rw [bl_st (by omega) (by omega), hb]; rfl
theorem ct_st {t q : Nat} (h : 6 * t + q < 60) (hn : sai w t q = false) : ct (bl w.2) 60 < ct (bl (stW w t q).2) 60 :=
  ct_lt (fun i hi hb => by rw [bl_st (by omega) (by omega), hb]; rfl) h hn (by rw [bl_st (by omega) (by omega)]; simp)
theorem tlW_pf {who s p k : Nat} {st : Bool} (hp : p < 10) (hk : k < 6) : pf (tlW w who s st) p k = pf w p k := by
  show (if _ then _ else _) = _
  rw [if_neg (by omega), if_neg (by omega), if_neg (by omega), if_neg (by omega), if_neg (by omega), if_neg (by omega), if_neg (by omega), if_neg (by omega)]; rfl
theorem tlW_lo {who s j : Nat} {st : Bool} (h : j < 115) (h7 : j ≠ 7) : (tlW w who s st).1 j = w.1 j := by
  show (if _ then _ else _) = _
  rw [if_neg h7, if_neg (by omega), if_neg (by omega), if_neg (by omega), if_neg (by omega), if_neg (by omega), if_neg (by omega), if_neg (by omega)]
theorem tlW_hi {who s j : Nat} {st : Bool} (h : 1015 ≤ j) : (tlW w who s st).1 j = w.1 j := by
  show (if _ then _ else _) = _
  rw [if_neg (by omega), if_neg (by omega), if_neg (by omega), if_neg (by omega), if_neg (by omega), if_neg (by omega), if_neg (by omega), if_neg (by omega)]
theorem tlW_lw {who s r c : Nat} {st : Bool} (hr : r < 59) (hc : c < 15) : lw (tlW w who s st) (r + 1) c = lw w r c := by
  show (if _ then _ else _) = _
  rw [if_neg (by omega), if_pos (by omega), show 115 + 15 * (r + 1) + c - 15 = 115 + 15 * r + c by omega]; rfl
theorem tlW_r0 {who s : Nat} {st : Bool} : lw (tlW w who s st) 0 0 = w.1 5 ∧ lw (tlW w who s st) 0 1 = nI who ∧ lw (tlW w who s st) 0 2 = nI s ∧ lw (tlW w who s st) 0 3 = 0 ∧ lw (tlW w who s st) 0 4 = b2i st ∧ ∀ p, p < 10 → lw (tlW w who s st) 0 (5 + p) = -1 := by
  refine ⟨rfl, rfl, rfl, rfl, rfl, fun p hp => ?_⟩
  show (if _ then _ else _) = _
  rw [if_neg (by omega), if_neg (by omega), if_neg (by omega), if_neg (by omega), if_neg (by omega), if_neg (by omega), if_neg (by omega), if_pos (by omega)]
theorem tlW_lg (h : WFs w) {who s : Nat} {st : Bool} : lg (tlW w who s st) = lg w + 1 := by
  have := (wf_lg h).2
  show nx (nI (lg w + 1)) = _
  rw [nx_nI (by omega)]
theorem tlW_WF (h : WF w) {who s : Nat} {st : Bool} (hw : who < pe w) (hs : s < 6 * th w) (hc : lg w + 1 ≤ ct (bl w.2) 60) : WF (tlW w who s st) := by
  have hl := tlW_lg h.1 (who := who) (s := s) (st := st)
  have h60 := ct_le (bl w.2) 60
  have eth : th (tlW w who s st) = th w := congrArg nx (tlW_lo (by omega) (by omega))
  have epe : pe (tlW w who s st) = pe w := congrArg nx (tlW_lo (by omega) (by omega))
  have eru : ru (tlW w who s st) = ru w := congrArg nx (tlW_lo (by omega) (by omega))
  obtain ⟨⟨k1, k2, k3, k4, k5, k6, k7, k8, k9, k10, k11, k12⟩, l⟩ := h
  refine ⟨⟨k1, k2, k3, k4, k5, ⟨lg w + 1, by omega, rfl⟩, ?_, ?_, ?_, ?_, ?_, ?_⟩, ?_⟩
  · intro t ht
    rw [tlW_lo (by omega) (by omega), eth]; exact k7 t ht
  · intro p hp
    have := k8 p hp
    unfold WFp at *
    rw [eth, epe, tlW_pf hp (by omega), tlW_pf hp (by omega), tlW_pf hp (by omega), tlW_pf hp (by omega), tlW_pf hp (by omega), tlW_pf hp (by omega)]; exact this
  · intro k hk j hj
    rw [eru] at hk
    have r12 : ru w ≤ 12 := by obtain ⟨n, n1, n2⟩ := k3; unfold ru; rw [n2, nx_nI (by omega)]; exact n1
    rw [tlW_lo (by omega) (by omega), eth]; exact k9 k hk j hj
  · intro t ht q hq hs
    have : wo (tlW w who _ st) t = wo w t := congrArg nx (tlW_lo (s := s) (by omega) (by omega))
    rw [this]; exact k10 t ht q hq hs
  · rw [hl]; exact hc
  · intro r hr
    rw [hl] at hr
    unfold WFr
    rw [eth, epe]
    cases r with
    | zero =>
      obtain ⟨a0, a1, a2, a3, a4, a5⟩ := tlW_r0 (w := w) (who := who) (s := s) (st := st)
      rw [a1, a2, a3, a4]
      refine ⟨⟨who, hw, rfl⟩, ⟨s, hs, rfl⟩, fun i _ _ => b_0 i, b2i_or st, fun p hp => ⟨fun hb => ?_, fun _ => a5 p hp⟩⟩
      rw [b_0] at hb; cases hb
    | succ r =>
      have hr59 : r < 59 := by omega
      rw [tlW_lw hr59 (by omega), tlW_lw hr59 (by omega), tlW_lw hr59 (by omega), tlW_lw hr59 (by omega)]
      obtain ⟨b1, b2, b3, b4, b5⟩ := k12 r (by omega)
      exact ⟨b1, b2, b3, b4, fun p hp => by rw [tlW_lw hr59 (by omega)]; exact b5 p hp⟩
  · have e4 : (tlW w who s st).1 4 = w.1 4 := tlW_lo (by omega) (by omega)
    have e15 : (tlW w who s st).1 1015 = w.1 1015 := tlW_hi (by omega)
    have eln : ∀ n k, ln (tlW w who s st) n k = ln w n k := fun n k => tlW_hi (by omega)
    have ec : cod (tlW w who s st) = cod w := by funext i; unfold cod; rw [tlW_hi (by omega), tlW_hi (by omega)]
    have eli : li (tlW w who s st) = li w := by unfold li; rw [e4, e15]
    unfold WFl TYl lst len at *
    rw [e4, e15, eli, ec]
    refine ⟨l.1, l.2.1, fun n hn => ?_⟩
    rw [eln, eln, eln, eln, eln]
    obtain ⟨a, b, c, d, e, f⟩ := l.2.2 n hn
    exact ⟨a, b, c, d, e, fun i hi => by rw [tlW_hi (by omega), tlW_hi (by omega)]; exact f i hi⟩
theorem pf_4 {p : Nat} : pf w p 4 = w.1 (23 + 6 * p) := by show w.1 (19 + 6 * p + 4) = _; rw [show 19 + 6 * p + 4 = 23 + 6 * p by omega]
theorem lw_05 {p : Nat} : lw w 0 (5 + p) = w.1 (120 + p) := by show w.1 (115 + 15 * 0 + (5 + p)) = _; rw [show 115 + 15 * 0 + (5 + p) = 120 + p by omega]
/-- what lrW leaves alone -/
theorem lrW_o {p a j : Nat} (h1 : j ≠ 23 + 6 * p) (h2 : j ≠ 118) (h3 : j ≠ 120 + p) : (lrW w p a).1 j = w.1 j := by
  unfold lrW; split
  · rfl
  · show upd _ _ _ j = _
    rw [upd_n h3, upd_n h2, upd_n h1]
theorem lrW_2 {p a : Nat} : (lrW w p a).2 = w.2 := by unfold lrW; split <;> rfl
theorem lrW_k {p a : Nat} (hp : p < 10) (hn : kno w p a = false) : (lrW w p a).1 (23 + 6 * p) = pf w p 4 ||| ((1 : Int32) <<< (nI a &&& 31)) ∧ (lrW w p a).1 118 = w.1 118 ||| ((1 : Int32) <<< (nI p &&& 31)) ∧ (lrW w p a).1 (120 + p) = nI a := by
  unfold lrW; rw [if_neg (by rw [hn]; decide)]
  refine ⟨?_, ?_, ?_⟩
  · show upd _ _ _ _ = _; rw [upd_n (by omega), upd_n (by omega), upd_s]
  · show upd _ _ _ _ = _; rw [upd_n (by omega), upd_s]
  · show upd _ _ _ _ = _; rw [upd_s]
theorem lrW_WF (h : WF w) {p a : Nat} (hp : p < pe w) (ha : a < th w) (h0 : 0 < lg w) (hp0 : bt (lw w 0 3) p = false) : WF (lrW w p a) := by
  cases hk : kno w p a with
  | true => have : lrW w p a = w := by unfold lrW; rw [if_pos hk]
            rw [this]; exact h
  | false =>
    have p10 := (wf_pe h.1).2
    have t10 := (wf_th h.1).2
    obtain ⟨q1, q2, q3⟩ := lrW_k (p := p) (a := a) (by omega) hk
    have eo : ∀ j, j ≠ 23 + 6 * p → j ≠ 118 → j ≠ 120 + p → (lrW w p a).1 j = w.1 j := fun j => lrW_o
    have e2 := lrW_2 (w := w) (p := p) (a := a)
    have eth : th (lrW w p a) = th w := congrArg nx (eo 0 (by omega) (by omega) (by omega))
    have epe : pe (lrW w p a) = pe w := congrArg nx (eo 1 (by omega) (by omega) (by omega))
    have eru : ru (lrW w p a) = ru w := congrArg nx (eo 2 (by omega) (by omega) (by omega))
    have elg : lg (lrW w p a) = lg w := congrArg nx (eo 7 (by omega) (by omega) (by omega))
    obtain ⟨⟨k1, k2, k3, k4, k5, k6, k7, k8, k9, k10, k11, k12⟩, l⟩ := h
    generalize hv : lrW w p a = v at *
    refine ⟨⟨?_, ?_, ?_, ?_, ?_, ?_, ?_, ?_, ?_, ?_, ?_, ?_⟩, ?_⟩
    · rw [eo 0 (by omega) (by omega) (by omega)]; exact k1
    · rw [eo 1 (by omega) (by omega) (by omega)]; exact k2
    · rw [eo 2 (by omega) (by omega) (by omega)]; exact k3
    · rw [eo 3 (by omega) (by omega) (by omega)]; exact k4
    · rw [eo 6 (by omega) (by omega) (by omega)]; exact k5
    · rw [eo 7 (by omega) (by omega) (by omega)]; exact k6
    · intro t ht
      rw [eo (9 + t) (by omega) (by omega) (by omega), eth]; exact k7 t ht
    · intro r hr
      have := k8 r hr
      unfold WFp at *
      have ef : ∀ k, k < 6 → k ≠ 4 → pf v r k = pf w r k := fun k hk1 hk2 => eo _ (by omega) (by omega) (by omega)
      rw [eth, epe, ef 0 (by omega) (by omega), ef 1 (by omega) (by omega), ef 2 (by omega) (by omega), ef 3 (by omega) (by omega), ef 5 (by omega) (by omega)]
      refine ⟨this.1, this.2.1, this.2.2.1, this.2.2.2.1, ?_, this.2.2.2.2.2⟩
      intro i hi1 hi2
      by_cases e : r = p
      · have : pf v r 4 = pf w p 4 ||| ((1 : Int32) <<< (nI a &&& 31)) := by rw [e, ← q1, pf_4]
        rw [this, b_or, b_1s (by omega) hi2, (k8 p (by omega)).2.2.2.2.1 i hi1 hi2]; simp; omega
      · have : pf v r 4 = pf w r 4 := eo _ (by omega) (by omega) (by omega)
        rw [this]; exact (k8 r hr).2.2.2.2.1 i hi1 hi2
    · intro k hk j hj
      rw [eru] at hk
      have r12 : ru w ≤ 12 := by obtain ⟨n, n1, n2⟩ := k3; unfold ru; rw [n2, nx_nI (by omega)]; exact n1
      rw [eo (79 + 3 * k + j) (by omega) (by omega) (by omega), eth]; exact k9 k hk j hj
    · intro t ht q hq hs
      unfold sai at hs; rw [e2] at hs
      have : wo v t = wo w t := congrArg nx (eo _ (by omega) (by omega) (by omega))
      rw [this]; exact k10 t ht q hq hs
    · rw [e2, elg]; exact k11
    · intro r hr
      rw [elg] at hr
      obtain ⟨b1, b2, b3, b4, b5⟩ := k12 r hr
      unfold WFr
      rw [eth, epe]
      by_cases e : r = 0
      · subst e
        have el : ∀ c, c < 15 → c ≠ 3 → c ≠ 5 + p → lw v 0 c = lw w 0 c := fun c h1 h2 h3 => eo _ (by omega) (by omega) (by omega)
        have e3 : lw v 0 3 = lw w 0 3 ||| ((1 : Int32) <<< (nI p &&& 31)) := q2
        have e5 : lw v 0 (5 + p) = nI a := by rw [← q3, lw_05]
        rw [el 1 (by omega) (by omega) (by omega), el 2 (by omega) (by omega) (by omega), el 4 (by omega) (by omega) (by omega), e3]
        refine ⟨b1, b2, fun i h1 h2 => ?_, b4, fun r hr => ⟨fun hb => ?_, fun hb => ?_⟩⟩
        · rw [b_or, b3 i h1 h2, b_1s (by omega) h2]; simp; omega
        · by_cases er : r = p
          · rw [er, e5]; exact ⟨a, ha, rfl⟩
          · rw [el (5 + r) (by omega) (by omega) (by omega)]
            rw [b_or, b_1s (by omega) (by omega), Bool.or_eq_true] at hb
            rcases hb with hb | hb
            · exact (b5 r hr).1 hb
            · exact absurd (by simpa using hb) er
        · rw [b_or, b_1s (by omega) (by omega), Bool.or_eq_false_iff] at hb
          have er : ¬ r = p := by simpa using hb.2
          rw [el (5 + r) (by omega) (by omega) (by omega)]; exact (b5 r hr).2 hb.1
      · have el : ∀ c, c < 15 → lw v r c = lw w r c := fun c h1 => eo _ (by omega) (by omega) (by omega)
        rw [el 1 (by omega), el 2 (by omega), el 3 (by omega), el 4 (by omega)]
        exact ⟨b1, b2, b3, b4, fun r' hr' => by rw [el (5 + r') (by omega)]; exact b5 r' hr'⟩
    · have e4 : v.1 4 = w.1 4 := eo 4 (by omega) (by omega) (by omega)
      have e15 : v.1 1015 = w.1 1015 := eo 1015 (by omega) (by omega) (by omega)
      have eln : ∀ n k, ln v n k = ln w n k := fun n k => eo _ (by omega) (by omega) (by omega)
      have ec : cod v = cod w := by funext i; unfold cod; rw [eo (1064 + 2 * i) (by omega) (by omega) (by omega), eo (1065 + 2 * i) (by omega) (by omega) (by omega)]
      have eli : li v = li w := by unfold li; rw [e4, e15]
      unfold WFl TYl lst len at *
      rw [e4, e15, eli, ec]
      refine ⟨l.1, l.2.1, fun n hn => ?_⟩
      rw [eln, eln, eln, eln, eln]
      obtain ⟨a, b, c, d, e, f⟩ := l.2.2 n hn
      exact ⟨a, b, c, d, e, fun i hi => by rw [eo (1064 + 2 * i) (by omega) (by omega) (by omega), eo (1065 + 2 * i) (by omega) (by omega) (by omega)]; exact f i hi⟩
/-- the learners one by one: what is so after k of them -/
theorem lrn_o {o : Nat → Option Nat} {k j : Nat} (h1 : ¬ (23 ≤ j ∧ j < 23 + 6 * k ∧ j % 6 = 5)) (h2 : j ≠ 118) (h3 : ¬ (120 ≤ j ∧ j < 120 + k)) : (lrn w o k).1 j = w.1 j := by
  induction k with
  | zero => rfl
  | succ k ih =>
    have ih := ih (by omega) (by omega)
    unfold lrn
    split
    · exact ih
    · rw [lrW_o (by omega) h2 (by omega)]; exact ih
theorem lrn_2 {o : Nat → Option Nat} {k : Nat} : (lrn w o k).2 = w.2 := by
  induction k with
  | zero => rfl
  | succ k ih =>
    unfold lrn
    split
    · exact ih
    · rw [lrW_2]; exact ih
/-- who learns what -/
def lea (w : WD) (o : Nat → Option Nat) (p : Nat) : Option Nat := match o p with
  | none => none
  | some a => if kno w p a then none else some a
theorem lrn_kn {o : Nat → Option Nat} {k p : Nat} (hk : k ≤ 10) (hp : p < 10) (hpk : k ≤ p) : pf (lrn w o k) p 4 = pf w p 4 := by
  show (lrn w o k).1 _ = w.1 _
  exact lrn_o (by omega) (by omega) (by omega)
theorem lrn_is {o : Nat → Option Nat} : ∀ {k : Nat}, k ≤ 10 → (∀ p, p < k → pf (lrn w o k) p 4 = match lea w o p with | none => pf w p 4 | some a => pf w p 4 ||| ((1 : Int32) <<< (nI a &&& 31))) ∧ (w.1 118 = 0 → (lrn w o k).1 118 = msk k (fun p => (lea w o p).isSome)) ∧ ∀ p, p < k → (lrn w o k).1 (120 + p) = match lea w o p with | none => w.1 (120 + p) | some a => nI a := by
  intro k
  induction k with
  | zero => intro _; exact ⟨fun p h => absurd h (Nat.not_lt_zero _), fun h => h, fun p h => absurd h (Nat.not_lt_zero _)⟩
  | succ k ih =>
    intro hk
    obtain ⟨i1, i2, i3⟩ := ih (by omega)
    have ekn : ∀ a, kno (lrn w o k) k a = kno w k a := fun a => by unfold kno; rw [lrn_kn (by omega) (by omega) (Nat.le_refl _)]
    have hn : lea w o k = none → lrn w o (k + 1) = lrn w o k := by
      intro h
      have hd : lrn w o (k + 1) = match o k with | none => lrn w o k | some a => lrW (lrn w o k) k a := rfl
      rw [hd]
      unfold lea at h
      cases ho : o k with
      | none => rfl
      | some a =>
        rw [ho] at h
        have : kno w k a = true := by
          cases hz : kno w k a with
          | true => rfl
          | false => simp [hz] at h
        show lrW (lrn w o k) k a = _
        unfold lrW; rw [if_pos (by rw [ekn]; exact this)]
    have hs : ∀ a, lea w o k = some a → lrn w o (k + 1) = lrW (lrn w o k) k a ∧ kno (lrn w o k) k a = false := by
      intro a h
      have hd : lrn w o (k + 1) = match o k with | none => lrn w o k | some a => lrW (lrn w o k) k a := rfl
      rw [hd]
      unfold lea at h
      cases ho : o k with
      | none => rw [ho] at h; cases h
      | some b =>
        rw [ho] at h
        cases hz : kno w k b with
        | true => simp [hz] at h
        | false =>
          have : b = a := by simpa [hz] using h
          subst this; exact ⟨rfl, by rw [ekn]; exact hz⟩
    cases hl : lea w o k with
    | none =>
      rw [hn hl]
      refine ⟨fun p hp => ?_, fun h0 => ?_, fun p hp => ?_⟩
      · by_cases e : p = k
        · rw [e, hl, lrn_kn (by omega) (by omega) (Nat.le_refl _)]
        · exact i1 p (by omega)
      · rw [i2 h0, msk_f (by rw [hl]; rfl), or0]
      · by_cases e : p = k
        · rw [e, hl]; exact lrn_o (by omega) (by omega) (by omega)
        · exact i3 p (by omega)
    | some a =>
      obtain ⟨s1, s2⟩ := hs a hl
      obtain ⟨q1, q2, q3⟩ := lrW_k (w := lrn w o k) (p := k) (a := a) (by omega) s2
      rw [s1]
      refine ⟨fun p hp => ?_, fun h0 => ?_, fun p hp => ?_⟩
      · by_cases e : p = k
        · rw [e, hl]
          have : pf (lrW (lrn w o k) k a) k 4 = (lrW (lrn w o k) k a).1 (23 + 6 * k) := pf_4
          rw [this, q1, lrn_kn (by omega) (by omega) (Nat.le_refl _)]
        · rw [← i1 p (by omega)]; show (lrW _ _ _).1 _ = _; exact lrW_o (by omega) (by omega) (by omega)
      · rw [q2, i2 h0, msk_t (by rw [hl]; rfl)]
      · by_cases e : p = k
        · rw [e, hl, q3]
        · rw [← i3 p (by omega)]; exact lrW_o (by omega) (by omega) (by omega)
theorem lrn_WF {o : Nat → Option Nat} (h : WF w) (h0 : 0 < lg w) (hz : w.1 118 = 0) (ho : ∀ p a, o p = some a → a < th w) : ∀ {k : Nat}, k ≤ pe w → WF (lrn w o k) ∧ th (lrn w o k) = th w ∧ pe (lrn w o k) = pe w ∧ lg (lrn w o k) = lg w := by
  have p10 := (wf_pe h.1).2
  intro k
  induction k with
  | zero => intro _; exact ⟨h, rfl, rfl, rfl⟩
  | succ k ih =>
    intro hk
    obtain ⟨i1, i2, i3, i4⟩ := ih (by omega)
    have e0 : th (lrn w o (k + 1)) = th w := congrArg nx (lrn_o (by omega) (by omega) (by omega))
    have e1 : pe (lrn w o (k + 1)) = pe w := congrArg nx (lrn_o (by omega) (by omega) (by omega))
    have e7 : lg (lrn w o (k + 1)) = lg w := congrArg nx (lrn_o (by omega) (by omega) (by omega))
    refine ⟨?_, e0, e1, e7⟩
    unfold lrn
    split
    · exact i1
    · rename_i a ha
      refine lrW_WF i1 (by omega) (by rw [i2]; exact ho k a ha) (by omega) ?_
      have : lw (lrn w o k) 0 3 = msk k (fun p => (lea w o p).isSome) := (lrn_is (o := o) (show k ≤ 10 by omega)).2.1 hz
      rw [this, b_msk (by omega) (by omega)]; simp
theorem tkn_lt {who t q p a : Nat} (h0 : 0 < th w) (h : tkn w who t q p = some a) : a < th w := by
  unfold tkn at h
  split at h
  · cases h
  · exact tk0_lt h0 h
/-- a saying leaves the world right -/
theorem say1_WF (h : WF w) {who t q : Nat} (hw : who < pe w) (ht : t < th w) (hq : q < 6) (hc : lg w + 1 ≤ ct (bl w.2) 60) : WF (tlW w who (6 * t + q) (stm w who)) ∧ WF (say1 w who t q) := by
  have h1 := tlW_WF h (s := 6 * t + q) (st := stm w who) hw (by omega) hc
  have e0 : th (tlW w who (6 * t + q) (stm w who)) = th w := congrArg nx (tlW_lo (by omega) (by omega))
  have e1 : pe (tlW w who (6 * t + q) (stm w who)) = pe w := congrArg nx (tlW_lo (by omega) (by omega))
  refine ⟨h1, (lrn_WF h1 ?_ rfl ?_ (by rw [e1]; exact Nat.le_refl _)).1⟩
  · rw [tlW_lg h.1]; omega
  · intro p a ha; rw [e0]; exact tkn_lt (by omega) ha
end SAY
