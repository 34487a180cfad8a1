/-! contracts of School: a saying -/
/-- the school now -/
def zN (k _j : Nat) : Bool := Nat.ble 4 k && Nat.ble k 28
def LK (n : Nat) (μ' μ : Mem) : Prop := ∀ k, k < n → mI μ' 23 k = mI μ 23 k ∧ mI μ' 24 k = mI μ 24 k ∧ mI μ' 25 k = mI μ 25 k ∧ mI μ' 26 k = mI μ 26 k ∧ mL μ' 27 k = mL μ 27 k ∧ mI μ' 28 k = mI μ 28 k
theorem LK_rfl {n : Nat} {μ : Mem} : LK n μ μ := fun _ _ => ⟨rfl, rfl, rfl, rfl, rfl, rfl⟩
theorem LK_tr {n m : Nat} {μ1 μ2 μ3 : Mem} (h : n ≤ m) (a : LK n μ2 μ1) (b : LK m μ3 μ2) : LK n μ3 μ1 := fun k hk => by
  obtain ⟨a1, a2, a3, a4, a5, a6⟩ := a k hk
  obtain ⟨b1, b2, b3, b4, b5, b6⟩ := b k (by omega)
  exact ⟨b1.trans a1, b2.trans a2, b3.trans a3, b4.trans a4, b5.trans a5, b6.trans a6⟩
theorem LK_lv {n : Nat} {μ1 μ2 : Mem} (e : Lv μ2 = Lv μ1) : LK n μ2 μ1 := fun k _ => ⟨rdI1 e rfl, rdI1 e rfl, rdI1 e rfl, rdI1 e rfl, rdL1 e rfl, rdI1 e rfl⟩
def knS (w : WD) (p : Nat) (x : Int32) : WD := (upd w.1 (23 + 6 * p) x, w.2)
theorem knS_ag {w : WD} {p : Nat} {x : Int32} (hp : p < 10) : agS w (knS w p x) := fun j h5 h8 h => upd_n (by omega)
theorem knS_pf {w : WD} {p r k : Nat} {x : Int32} (hk : k < 6) : pf (knS w p x) r k = if r = p ∧ k = 4 then x else pf w r k := by
  show upd w.1 (23 + 6 * p) x (19 + 6 * r + k) = _
  by_cases h : r = p ∧ k = 4
  · rw [if_pos h, h.1, h.2, show 19 + 6 * p + 4 = 23 + 6 * p by omega, upd_s]
  · rw [if_neg h, upd_n (by omega)]; rfl
theorem knS_o {w : WD} {p j : Nat} {x : Int32} (h : j ≠ 23 + 6 * p) : (knS w p x).1 j = w.1 j := upd_n h
theorem knS_WF {w : WD} {p : Nat} {x : Int32} (h : WF w) (hp : p < 10) (hx : ∀ i, th w ≤ i → i < 32 → bt x i = false) : WF (knS w p x) := by
  refine WF_ag (knS_ag hp) rfl (fun r hr => ?_) h
  obtain ⟨k1, k2, k3, k4, k5, k6, k7⟩ := h.1.2.2.2.2.2.2.2.1 r hr
  unfold WFp
  rw [agS_th (knS_ag hp), agS_pe (knS_ag hp), knS_pf (by omega), knS_pf (by omega), knS_pf (by omega), knS_pf (by omega), knS_pf (by omega), knS_pf (by omega)]
  refine ⟨by simpa using k1, by simpa using k2, by simpa using k3, by simpa using k4, ?_, by simpa using k6, by simpa using k7⟩
  by_cases e : r = p
  · simp only [e, and_self, if_true]; exact hx
  · simp only [e, false_and, if_false]; exact k5
theorem CI_knS {μ : Mem} {w : WD} (c : CI μ w) {p : Nat} {x : Int32} (hp : p < 10) (hx : ∀ i, th w ≤ i → i < 32 → bt x i = false) : CI (sI μ 12 p x) (knS w p x) := by
  refine ⟨CR_ag (knS_ag hp) (Lz_I rfl) ?_ c.1, knS_WF c.2 hp hx⟩
  obtain ⟨s1, s2, s3, s4, s5, s6⟩ := c.1.2.1
  refine ⟨s1, s2.trans (knS_o (by omega)).symm, s3.trans (knS_o (by omega)).symm, s4.trans (knS_o (by omega)).symm, fun r hr => ?_, ?_⟩
  · obtain ⟨t1, t2, t3⟩ := s5 r hr
    rw [knS_pf (by omega), knS_pf (by omega), knS_pf (by omega)]
    refine ⟨?_, (show mI μ 13 r = _ by simpa using t2), (show mI μ 14 r = _ by simpa using t3)⟩
    show mI (sI μ 12 p x) 12 r = _
    rw [rI_I, if_pos rfl]
    by_cases q : r = p
    · subst q; rw [upd_s]; simp
    · rw [upd_n q]; simpa [q] using t1
  · show mI μ 11 4 = _
    rw [s6]; apply msk_cong; intro i _
    unfold her; rw [knS_pf (by omega)]; simp
theorem CI_d {μ : Mem} {w : WD} (c : CI μ w) : CI (sI μ 11 6 (nsd (w.1 8))) (dW w) := by
  refine ⟨CR_ag dW_ag (Lz_I rfl) ?_ c.1, WF_d c.2⟩
  obtain ⟨s1, s2, s3, s4, s5, s6⟩ := c.1.2.1
  refine ⟨s1, ?_, ?_, ?_, fun r hr => ?_, ?_⟩
  · rw [dW_o (by decide)]; exact s2
  · show mI (sI μ 11 6 _) 11 6 = _
    rw [dW_8, rI_I, if_pos rfl, upd_s]
  · rw [dW_o (by decide)]; exact s4
  · rw [dW_pf, dW_pf, dW_pf]; exact s5 r hr
  · show mI μ 11 4 = _
    rw [s6]; apply msk_cong; intro i _
    unfold her; rw [dW_pf]
theorem CI_st {μ : Mem} {w : WD} (c : CI μ w) {t q : Nat} (ht : t < 10) (hq : q < wo w t) : CI (sL μ 11 0 (w.2 ||| ((1 : Int64) <<< ((nI (6 * t + q)).toInt64 &&& 63)))) (stW w t q) := by
  obtain ⟨a, ⟨s1, s2, s3, s4, s5, s6⟩, b, d⟩ := c.1
  refine ⟨⟨a, ⟨?_, s2, s3, s4, s5, s6⟩, b, d⟩, WF_st c.2 ht hq⟩
  show mL (sL μ 11 0 _) 11 0 = _
  rw [rL_L, if_pos rfl, updL_s]; rfl
/-- the knowledge that a saying brings, one by one -/
def knW (v : WD) (o : Nat → Option Nat) : Nat → WD
  | 0 => v
  | p + 1 => match lea v o p with
    | none => knW v o p
    | some a => knS (knW v o p) p (pf v p 4 ||| ((1 : Int32) <<< (nI a &&& 31)))
theorem knW_o {v : WD} {o : Nat → Option Nat} {k j : Nat} (h : ¬ (23 ≤ j ∧ j < 23 + 6 * k ∧ j % 6 = 5)) : (knW v o k).1 j = v.1 j := by
  induction k with
  | zero => rfl
  | succ k ih =>
    have ih := ih (by omega)
    unfold knW; split
    · exact ih
    · rw [knS_o (by omega)]; exact ih
theorem knW_2 {v : WD} {o : Nat → Option Nat} {k : Nat} : (knW v o k).2 = v.2 := by
  induction k with
  | zero => rfl
  | succ k ih => unfold knW; split <;> exact ih
theorem knW_k {v : WD} {o : Nat → Option Nat} {k : Nat} : k ≤ 10 → ∀ p, p < 10 → pf (knW v o k) p 4 = if p < k then (match lea v o p with | none => pf v p 4 | some a => pf v p 4 ||| ((1 : Int32) <<< (nI a &&& 31))) else pf v p 4 := by
  induction k with
  | zero => intro _ p _; rw [if_neg (by omega)]; rfl
  | succ k ih =>
    intro hk p hp
    have ih := ih (by omega) p hp
    have hd : knW v o (k + 1) = match lea v o k with | none => knW v o k | some a => knS (knW v o k) k (pf v k 4 ||| ((1 : Int32) <<< (nI a &&& 31))) := rfl
    rw [hd]
    by_cases e : p = k
    · subst e
      rw [if_pos (by omega)]
      rw [if_neg (by omega)] at ih
      cases hl : lea v o p with
      | none => exact ih
      | some a => show pf (knS _ _ _) p 4 = _; rw [knS_pf (by omega)]; simp
    · have : (p < k + 1) = (p < k) := by simp; omega
      simp only [this]
      cases hl : lea v o k with
      | none => exact ih
      | some a => show pf (knS _ _ _) p 4 = _; rw [knS_pf (by omega), if_neg (by omega)]; exact ih
theorem knW_smT {v : WD} {o : Nat → Option Nat} {k : Nat} (hk : k ≤ 10) : smT (knW v o k) v := fun j h1 h2 h3 => knW_o (by omega)
/-- what each learnt, four bits for each -/
def lnt (f : Nat → Option Nat) : Nat → Int64
  | 0 => 0
  | p + 1 => match f p with
    | none => lnt f p
    | some a => lnt f p ||| ((nI a).toInt64 <<< ((nI (4 * p)).toInt64 &&& 63))
theorem bl_nI {a i : Nat} (ha : a < 2 ^ 31) (hi : i < 64) : bl (nI a).toInt64 i = a.testBit i := by
  rw [nI_l ha]
  show (BitVec.ofNat 64 a).getLsbD i = _
  rw [BitVec.getLsbD_ofNat]; simp [hi]
theorem lnt_bit {f : Nat → Option Nat} (hf : ∀ p a, f p = some a → a < 16) : ∀ {k : Nat}, k ≤ 10 → ∀ i, i < 64 → bl (lnt f k) i = match (if i / 4 < k then f (i / 4) else none) with | none => false | some a => a.testBit (i % 4) := by
  intro k
  induction k with
  | zero => intro _ i _; rw [if_neg (by omega)]; exact bl_0 i
  | succ k ih =>
    intro hk i hi
    have ih := ih (by omega) i hi
    have hd : lnt f (k + 1) = match f k with | none => lnt f k | some a => lnt f k ||| ((nI a).toInt64 <<< ((nI (4 * k)).toInt64 &&& 63)) := rfl
    rw [hd]
    cases hk' : f k with
    | none =>
      show bl (lnt f k) i = _
      rw [ih]
      by_cases e : i / 4 = k
      · rw [if_neg (by omega), if_pos (by omega), e, hk']
      · have : (i / 4 < k + 1) = (i / 4 < k) := by simp; omega
        simp only [this]
    | some a =>
      have ha := hf k a hk'
      show bl (lnt f k ||| _) i = _
      rw [bl_or, ih, bl_shl (4 * k) (by omega) _ hi, bl_nI (by omega) (by omega)]
      by_cases e : i / 4 = k
      · rw [if_neg (by omega), if_pos (by omega), e, hk']
        have h4 : 4 * k ≤ i := by omega
        simp only [h4, decide_true, Bool.true_and, Bool.false_or]
        rw [show i - 4 * k = i % 4 by omega]
      · have : (i / 4 < k + 1) = (i / 4 < k) := by simp; omega
        simp only [this]
        by_cases h4 : 4 * k ≤ i
        · have h16 : a.testBit (i - 4 * k) = false := Nat.testBit_lt_two_pow (Nat.lt_of_lt_of_le ha (Nat.pow_le_pow_right (n := 2) (i := 4) (j := i - 4 * k) (by decide) (by omega)))
          simp [h16]
        · simp [h4]
theorem lnt_nib {f : Nat → Option Nat} (hf : ∀ p a, f p = some a → a < 16) {k p a : Nat} (hk : k ≤ 10) (hp : p < k) (h : f p = some a) : nib (lnt f k) p = nI a := by
  apply b_ext; intro i hi
  unfold nib
  rw [b_and, bt_l2i _ hi, bl_ushr _ (by omega), bt_nI hi]
  have h15 : bt 15 i = decide (i < 4) := by
    have : ∀ i, i < 32 → bt 15 i = decide (i < 4) := by decide +kernel
    exact this i hi
  rw [h15]
  have ha := hf p a h
  by_cases q : i < 4
  · rw [lnt_bit hf hk _ (by omega), show (4 * p + i) / 4 = p by omega, show (4 * p + i) % 4 = i by omega, if_pos hp, h]
    simp [q]
  · have h16 : a.testBit i = false := Nat.testBit_lt_two_pow (Nat.lt_of_lt_of_le ha (Nat.pow_le_pow_right (n := 2) (i := 4) (j := i) (by decide) (by omega)))
    simp [q, h16]
section CG
variable {g : Gl} {Φ : Out → Mem → Prop} {μ : Mem} {w : WD}
theorem c_draw (c : CI μ w) (H : Φ (.inl (some (.int (nI (drw (nsd (w.1 8))))))) (sI μ 11 6 (nsd (w.1 8)))) : Spec g i_Sta_draw 0 [.ref 11] μ Φ := by
  refine spi o_Sta_draw rfl (v_Sta_draw_0 ?_)
  rw [ci_see c]
  show Φ (.inl (some (.int ((ush (nsd (w.1 8)) 16) &&& 32767)))) (sI μ 11 6 (nsd (w.1 8)))
  rw [ush16, drw_nI]; exact H
theorem say1_o {v : WD} {who t q j : Nat} (h10 : pe v ≤ 10) (h : j < 115) (h7 : j ≠ 7) (hk : ¬ (23 ≤ j ∧ j % 6 = 5 ∧ j < 83)) : (say1 v who t q).1 j = v.1 j := by
  unfold say1
  rw [lrn_o (by omega) (by omega) (by omega), tlW_lo h h7]
theorem say1_hi {v : WD} {who t q j : Nat} (h10 : pe v ≤ 10) (h : 1015 ≤ j) : (say1 v who t q).1 j = v.1 j := by
  unfold say1
  rw [lrn_o (by omega) (by omega) (by omega), tlW_hi h]
theorem lea_tl {v : WD} {who s : Nat} {st : Bool} {o : Nat → Option Nat} {p : Nat} (hp : p < 10) : lea (tlW v who s st) o p = lea v o p := by
  unfold lea kno; rw [tlW_pf hp (by omega)]
theorem say1_kn {v : WD} {who t q p : Nat} (h10 : pe v ≤ 10) (hp : p < 10) : pf (say1 v who t q) p 4 = pf (knW v (tkn v who t q) (pe v)) p 4 := by
  rw [knW_k h10 p hp]
  unfold say1
  by_cases e : p < pe v
  · rw [if_pos e, (lrn_is h10).1 p e, lea_tl hp, tlW_pf hp (by omega)]
    cases lea v (tkn v who t q) p <;> rfl
  · rw [if_neg e, lrn_kn h10 hp (by omega), tlW_pf hp (by omega)]
theorem say1_pf {v : WD} {who t q p k : Nat} (h10 : pe v ≤ 10) (hp : p < 10) (hk : k < 6) (h4 : k ≠ 4) : pf (say1 v who t q) p k = pf v p k := by
  show (say1 v who t q).1 _ = _
  exact say1_o h10 (by omega) (by omega) (by omega)
theorem lea_lt {v : WD} {who t q p a : Nat} (h0 : 0 < th v) (h : lea v (tkn v who t q) p = some a) : a < th v := by
  unfold lea at h
  cases ho : tkn v who t q p with
  | none => rw [ho] at h; cases h
  | some b =>
    rw [ho] at h
    cases hz : kno v p b with
    | true => simp [hz] at h
    | false =>
      have : b = a := by simpa [hz] using h
      rw [← this]; exact tkn_lt h0 ho
/-- a saying's end: the row is written -/
theorem sp_end (c : CI μ w) (hw : WF w) {v : WD} (hv : WF v) {who t q : Nat} (hwho : who < pe v) (ht : t < th v) (hq : q < 6) (hc : lg v + 1 ≤ ct (bl v.2) 60) (hk : w = knW v (tkn v who t q) (pe v))
    (H : ∀ μ', Lz zN μ' = Lz zN μ → CI μ' (say1 v who t q) → LK (lg v) μ' μ → Φ (.inl (some (.int (msk (pe v) (fun p => (lea v (tkn v who t q) p).isSome))))) μ') :
    (60 ≤ mI μ 11 7 → Φ (.inl (some (.int (msk (pe v) (fun p => (lea v (tkn v who t q) p).isSome))))) μ) ∧ (¬ 60 ≤ mI μ 11 7 → vp_in (mI μ 11 7) 60 ∧ vp_in (mI μ 11 7) 60 ∧ Spec g i_SO_numberOf 0 [.int (nI t), .int (nI q)] (sI (sI μ 23 (nx (mI μ 11 7)) (mI μ 11 5)) 24 (nx (mI μ 11 7)) (nI who)) (onI (fun r2 μ1 => vp_in (mI μ 11 7) 60 ∧ vp_in (mI μ1 11 7) 60 ∧ vp_in (mI μ1 11 7) 60 ∧ vp_in (mI μ1 11 7) 60 ∧ (b2i (stm v who) = 0 ∨ b2i (stm v who) = 1) ∧ Φ (.inl (some (.int (msk (pe v) (fun p => (lea v (tkn v who t q) p).isSome))))) (sI (sI (sL (sI (sI μ1 25 (nx (mI μ 11 7)) r2) 26 (nx (mI μ1 11 7)) (msk (pe v) (fun p => (lea v (tkn v who t q) p).isSome))) 27 (nx (mI μ1 11 7)) (lnt (lea v (tkn v who t q)) (pe v))) 28 (nx (mI μ1 11 7)) (b2i (stm v who))) 11 7 ((mI μ1 11 7) + 1))) (fun _ _ => False))) := by
  have p10 := (wf_pe hv.1).2
  have t10 := (wf_th hv.1).2
  have h60 := ct_le (bl v.2) 60
  have elg : lg w = lg v := by rw [hk]; exact congrArg nx (knW_o (by omega))
  have er : mI μ 11 7 = nI (lg v) := by rw [ci_row c, elg]
  have ed : mI μ 11 5 = v.1 5 := by rw [ci_day c, hk]; exact knW_o (by omega)
  have vr : vp_in (nI (lg v)) 60 := vp_in_nI (by omega) (by decide)
  have hsw := (say1_WF hv hwho ht hq hc).2
  refine ⟨fun h => ?_, fun _ => ?_⟩
  · rw [er] at h; exact absurd h (nI_ge (b := 60) (by omega) (by decide))
  · rw [er]
    refine ⟨vr, vr, c_num t q (oI ?_)⟩
    have er2 : mI (sI (sI μ 23 (nx (nI (lg v))) (mI μ 11 5)) 24 (nx (nI (lg v))) (nI who)) 11 7 = nI (lg v) := er
    rw [er2, nx_nI (by omega), ed]
    refine ⟨vr, vr, vr, vr, b2i_or _, ?_⟩
    have eL : lg (say1 v who t q) = lg v + 1 := by
      have : lg (say1 v who t q) = lg (tlW v who (6 * t + q) (stm v who)) := congrArg nx (lrn_o (by omega) (by omega) (by omega))
      rw [this, tlW_lg hv.1]
    refine H _ ?_ ⟨⟨?_, ?_, ?_, ?_⟩, hsw⟩ ?_
    · exact (Lz_I rfl).trans ((Lz_I rfl).trans ((Lz_L rfl).trans ((Lz_I rfl).trans ((Lz_I rfl).trans ((Lz_I rfl).trans (Lz_I rfl))))))
    · obtain ⟨a1, a2, a3, a4, a5, a6, a7, a8⟩ := c.1.1
      have ew : ∀ j, j < 115 → j ≠ 7 → ¬ (23 ≤ j ∧ j % 6 = 5 ∧ j < 83) → (say1 v who t q).1 j = w.1 j := fun j h1 h2 h3 => by rw [say1_o p10 h1 h2 h3, hk]; exact (knW_o (by omega)).symm
      have ew2 : ∀ j, 79 ≤ j → j < 115 → (say1 v who t q).1 j = w.1 j := fun j h1 h2 => by
        rw [hk, knW_o (by omega)]; unfold say1; rw [lrn_o (by omega) (by omega) (by omega), tlW_lo h2 (by omega)]
      refine ⟨a1.trans (ew 0 (by omega) (by omega) (by omega)).symm, a2.trans (ew 1 (by omega) (by omega) (by omega)).symm, a3.trans (ew 2 (by omega) (by omega) (by omega)).symm, a4.trans (ew 6 (by omega) (by omega) (by omega)).symm, a5.trans (ew 3 (by omega) (by omega) (by omega)).symm, fun t' ht' => (a6 t' ht').trans (ew _ (by omega) (by omega) (by omega)).symm, fun p hp => ?_, fun k hk' => ?_⟩
      · have e2 : pf (say1 v who t q) p 2 = pf w p 2 := ew _ (by omega) (by omega) (by omega)
        have e3 : pf (say1 v who t q) p 3 = pf w p 3 := ew _ (by omega) (by omega) (by omega)
        rw [e2, e3]; exact a7 p hp
      · rw [ew2 _ (by omega) (by omega), ew2 (79 + 3 * k + 1) (by omega) (by omega), ew2 (79 + 3 * k + 2) (by omega) (by omega)]; exact a8 k hk'
    · obtain ⟨s1, s2, s3, s4, s5, s6⟩ := c.1.2.1
      have ek : ∀ j, ¬ (23 ≤ j ∧ j < 83 ∧ j % 6 = 5) → w.1 j = v.1 j := fun j h => by rw [hk]; exact knW_o (by omega)
      have e2 : (say1 v who t q).2 = w.2 := by unfold say1; rw [lrn_2, hk, knW_2]; rfl
      refine ⟨?_, ?_, ?_, ?_, fun p hp => ?_, ?_⟩
      · rw [e2]; exact s1
      · rw [say1_o p10 (by omega) (by omega) (by omega), ← ek 5 (by omega)]; exact s2
      · rw [say1_o p10 (by omega) (by omega) (by omega), ← ek 8 (by omega)]; exact s3
      · have : (say1 v who t q).1 7 = nI (lg v + 1) := by unfold say1; rw [lrn_o (by omega) (by omega) (by omega)]; rfl
        rw [this, rI_I, if_pos rfl, upd_s, nI_succ]
      · rw [say1_kn p10 hp, say1_pf p10 hp (by omega) (by omega), say1_pf p10 hp (by omega) (by omega), ← hk]
        have ex : pf w p 0 = pf v p 0 := ek _ (by omega)
        have ey : pf w p 1 = pf v p 1 := ek _ (by omega)
        rw [← ex, ← ey]; exact s5 p hp
      · show mI μ 11 4 = _
        rw [s6]; apply msk_cong; intro i hi
        have : pf w i 5 = pf v i 5 := ek _ (by omega)
        unfold her; rw [say1_pf p10 hi (by omega) (by omega), this]
    · obtain ⟨b1, b2, b3, b4⟩ := c.1.2.2.1
      have ek : ∀ j, ¬ (23 ≤ j ∧ j < 83 ∧ j % 6 = 5) → w.1 j = v.1 j := fun j h => by rw [hk]; exact knW_o (by omega)
      have eh : ∀ j, 1015 ≤ j → (say1 v who t q).1 j = w.1 j := fun j h => by rw [say1_hi p10 h, ek j (by omega)]
      have e4 : (say1 v who t q).1 4 = w.1 4 := by rw [say1_o p10 (by omega) (by omega) (by omega), ek 4 (by omega)]
      have eln : ∀ n k, ln (say1 v who t q) n k = ln w n k := fun n k => eh _ (by omega)
      have ec : cod (say1 v who t q) = cod w := by funext i; unfold cod; rw [eh _ (by omega), eh _ (by omega)]
      have eli : li (say1 v who t q) = li w := by unfold li; rw [e4, eh 1015 (by omega)]
      have ecl : cle (say1 v who t q) = cle w := by unfold cle len; rw [eli, eln]
      unfold RLaw
      rw [e4, eh 1015 (by omega), ecl, ec, eli]
      refine ⟨b1, b2, fun n hn => ?_, b4⟩
      rw [eln, eln, eln]; exact b3 n hn
    · obtain ⟨d1, d2⟩ := c.1.2.2.2
      refine ⟨fun r hr => ?_, fun k hk' => ?_⟩
      · rw [eL] at hr ⊢
        cases r with
        | zero =>
          obtain ⟨a0, a1, a2, a3, a4, a5⟩ := tlW_r0 (w := v) (who := who) (s := 6 * t + q) (st := stm v who)
          have el : ∀ c, c < 15 → c ≠ 3 → c < 5 → lw (say1 v who t q) 0 c = lw (tlW v who (6 * t + q) (stm v who)) 0 c := fun c h1 h2 h3 => lrn_o (by omega) (by omega) (by omega)
          have ei := (lrn_is (w := tlW v who (6 * t + q) (stm v who)) (o := tkn v who t q) p10)
          have e118 : lw (say1 v who t q) 0 3 = msk (pe v) (fun p => (lea v (tkn v who t q) p).isSome) := by
            have h1 : lw (say1 v who t q) 0 3 = msk (pe v) (fun p => (lea (tlW v who (6 * t + q) (stm v who)) (tkn v who t q) p).isSome) := ei.2.1 rfl
            rw [h1]; apply msk_cong; intro i hi; rw [lea_tl (by omega)]
          rw [show lg v + 1 - 1 - 0 = lg v by omega, el 0 (by omega) (by omega) (by omega), el 1 (by omega) (by omega) (by omega), el 2 (by omega) (by omega) (by omega), el 4 (by omega) (by omega) (by omega), a0, a1, a2, a4, e118]
          refine ⟨?_, ?_, ?_, ?_, ?_, fun p hp hb => ?_⟩
          · show upd (mI μ 23) (lg v) (v.1 5) (lg v) = _; exact upd_s
          · show upd (mI μ 24) (lg v) (nI who) (lg v) = _; exact upd_s
          · show upd (mI μ 25) (lg v) (nI (6 * t + q)) (lg v) = _; exact upd_s
          · show upd (mI μ 26) (lg v) _ (lg v) = _; exact upd_s
          · show upd (mI μ 28) (lg v) _ (lg v) = _; exact upd_s
          · rw [b_msk (by omega) (by omega), Bool.and_eq_true, decide_eq_true_eq] at hb
            obtain ⟨hb1, hb2⟩ := hb
            obtain ⟨a, ha⟩ := Option.isSome_iff_exists.mp hb2
            rw [lw_05]
            have h2 := ei.2.2 p hb1
            rw [lea_tl (by omega), ha] at h2
            have h2' : (say1 v who t q).1 (120 + p) = nI a := h2
            rw [h2']
            show nib (vp_updL (mL μ 27) (lg v) _ (lg v)) p = _
            rw [updL_s]
            exact lnt_nib (fun p a h => Nat.lt_of_lt_of_le (lea_lt (by omega) h) (by omega)) p10 hb1 ha
        | succ r =>
          have hr2 : r < lg w := by omega
          have el : ∀ c, c < 15 → lw (say1 v who t q) (r + 1) c = lw w r c := fun c h1 => by
            have : lw (say1 v who t q) (r + 1) c = lw (tlW v who (6 * t + q) (stm v who)) (r + 1) c := lrn_o (by omega) (by omega) (by omega)
            rw [this, tlW_lw (by omega) h1, hk]; exact (knW_o (by omega)).symm
          rw [el 0 (by omega), el 1 (by omega), el 2 (by omega), el 3 (by omega), el 4 (by omega)]
          have hd := d1 r hr2
          rw [elg] at hd
          have ei : lg v + 1 - 1 - (r + 1) = lg v - 1 - r := by omega
          have hne : lg v - 1 - r ≠ lg v := by omega
          rw [ei]
          obtain ⟨g1, g2, g3, g4, g5, g6⟩ := hd
          refine ⟨?_, ?_, ?_, ?_, ?_, fun p hp hb => ?_⟩
          · show upd (mI μ 23) (lg v) (v.1 5) _ = _; rw [upd_n hne]; exact g1
          · show upd (mI μ 24) (lg v) (nI who) _ = _; rw [upd_n hne]; exact g2
          · show upd (mI μ 25) (lg v) (nI (6 * t + q)) _ = _; rw [upd_n hne]; exact g3
          · show upd (mI μ 26) (lg v) _ _ = _; rw [upd_n hne]; exact g4
          · show upd (mI μ 28) (lg v) _ _ = _; rw [upd_n hne]; exact g5
          · rw [el (5 + p) (by omega)]
            show nib (vp_updL (mL μ 27) (lg v) _ _) p = _
            rw [updL_n hne]; exact g6 p hp hb
      · show upd (mI μ 28) (lg v) (b2i (stm v who)) k = 0 ∨ upd (mI μ 28) (lg v) (b2i (stm v who)) k = 1
        by_cases e : k = lg v
        · rw [e, upd_s]; exact b2i_or _
        · rw [upd_n e]; exact d2 k hk'
    · intro k hk'
      refine ⟨?_, ?_, ?_, ?_, ?_, ?_⟩
      · show upd (mI μ 23) (lg v) (v.1 5) k = _; exact upd_n (by omega)
      · show upd (mI μ 24) (lg v) (nI who) k = _; exact upd_n (by omega)
      · show upd (mI μ 25) (lg v) (nI (6 * t + q)) k = _; exact upd_n (by omega)
      · show upd (mI μ 26) (lg v) _ k = _; exact upd_n (by omega)
      · show vp_updL (mL μ 27) (lg v) _ k = _; exact updL_n (by omega)
      · show upd (mI μ 28) (lg v) _ k = _; exact upd_n (by omega)
end CG
