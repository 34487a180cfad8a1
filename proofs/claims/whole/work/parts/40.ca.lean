/-! contracts: counts, State, Law, School -/
section CA
variable {g : Gl} {Φ : Out → Mem → Prop} {μ : Mem} {w : WD}
theorem c_bc {a : Int32} (H : Φ (.inl (some (.int (bcF a)))) μ) : Spec g i_Int_bitCount 0 [.int a] μ Φ := spi o_Int_bitCount rfl (v_Int_bitCount_0 H)
theorem c_tz {a : Int32} (H : Φ (.inl (some (.int (tzF a)))) μ) : Spec g i_Int_numberOfTrailingZeros 0 [.int a] μ Φ := by
  refine spi o_Int_numberOfTrailingZeros rfl (v_Int_numberOfTrailingZeros_0 ?_)
  unfold tzF at H
  dsimp only at H
  refine ⟨fun h0 => ?_, fun h0 => ?_⟩
  · rw [if_pos h0] at H
    refine ⟨fun h1 => ?_, fun h1 => ?_⟩ <;> simp only [h1, if_true, if_false] at H <;>
    refine ⟨fun h2 => ?_, fun h2 => ?_⟩ <;> simp only [h2, if_true, if_false] at H <;>
    refine ⟨fun h3 => ?_, fun h3 => ?_⟩ <;> simp only [h3, if_true, if_false] at H <;>
    refine ⟨fun h4 => ?_, fun h4 => ?_⟩ <;> simp only [h4, if_true, if_false] at H <;> exact H
  · rw [if_neg h0] at H; exact H
theorem c_num (t q : Nat) (H : Φ (.inl (some (.int (nI (6 * t + q))))) μ) : Spec g i_SO_numberOf 0 [.int (nI t), .int (nI q)] μ Φ := by
  refine spi o_SO_numberOf rfl (v_SO_numberOf_0 ?_)
  rw [show (6 : Int32) = nI 6 from rfl, pk_mul, nI_add]; exact H
theorem c_abs (c : CI μ w) {p : Nat} (hp : p < 10) (H : Φ (.inl (some (.int (b2i (!her w p))))) μ) : Spec g i_Sta_isAbsent 0 [.ref 11, .int (nI p)] μ Φ := by
  have e : bt (mI μ 11 4) p = !her w p := by rw [ci_abs c, b_msk (by omega) (by omega)]; simp [hp]
  refine spi o_Sta_isAbsent rfl (v_Sta_isAbsent_0 ⟨fun h => ?_, fun h => ?_⟩)
  · rw [tb0 (by omega), e] at h
    rw [b2i_f h] at H; exact z01 H
  · rw [tb0 (by omega), e, Bool.not_eq_false] at h
    rw [b2i_t h] at H; exact z11 H
theorem c_isk (c : CI μ w) {p t : Nat} (hp : p < 10) (ht : t < 32) (H : Φ (.inl (some (.int (b2i (kno w p t))))) μ) : Spec g i_Sta_isKnown 0 [.ref 11, .int (nI p), .int (nI t)] μ Φ := by
  have e : bt (mI μ 12 (nx (nI p))) t = kno w p t := by rw [nx_nI (by omega), ci_kn c hp]; rfl
  refine spi o_Sta_isKnown rfl (v_Sta_isKnown_0 ⟨vp_in_nI hp (by decide), fun h => ?_, fun h => ?_⟩)
  · rw [tb0 ht, e] at h
    rw [b2i_f h] at H; exact z01 H
  · rw [tb0 ht, e, Bool.not_eq_false] at h
    rw [b2i_t h] at H; exact z11 H
theorem c_dist (c : CI μ w) {p q : Nat} (hp : p < 10) (hq : q < 10) (H : Φ (.inl (some (.int (apa w p q)))) μ) : Spec g i_Sta_distance 0 [.ref 11, .int (nI p), .int (nI q)] μ Φ := by
  refine spi o_Sta_distance rfl (v_Sta_distance_0 ⟨vp_in_nI hp (by decide), vp_in_nI hq (by decide), vp_in_nI hp (by decide), vp_in_nI hq (by decide), ?_⟩)
  rw [nx_nI (by omega), nx_nI (by omega), ci_x c hp, ci_x c hq, ci_y c hp, ci_y c hq]; exact H
/-! the law's code -/
def SR (f : Nat → Int32) : List Int32 → Prop
  | [] => True
  | x :: r => f r.length = x ∧ SR f r
theorem SR_up {f : Nat → Int32} {r : List Int32} {j : Nat} {x : Int32} (h : SR f r) (hj : r.length ≤ j) : SR (upd f j x) r := by
  induction r with
  | nil => trivial
  | cons a r ih =>
    rw [List.length_cons] at hj
    exact ⟨(upd_n (by omega)).trans h.1, ih h.2 (by omega)⟩
theorem SR_push {f : Nat → Int32} {r : List Int32} {x : Int32} (h : SR f r) : SR (upd f r.length x) (x :: r) := ⟨upd_s, SR_up h (Nat.le_refl _)⟩
theorem tyS_len {F : Int32 → Int32} {c : Int32} {ts us : List Bool} {st : List Int32} (h : tyS c ts = some us) (hl : st.length = ts.length) : (stp F c st).length = us.length := by
  unfold tyS at h
  unfold stp
  split at h
  · rename_i q; rw [if_pos q, ← Option.some.inj h, List.length_cons, List.length_cons, hl]
  · rename_i q0; rw [if_neg q0]
    split at h
    · rename_i q1; rw [if_pos q1]
      split at h
      · rename_i r; rw [← Option.some.inj h]
        match st, hl with
        | x :: s, hl => exact hl
      · cases h
    · rename_i q1; rw [if_neg q1]
      have key : ∀ {a b : Bool} {r vs : List Bool}, ts = a :: b :: r → us = vs → vs.length = r.length + 1 → (match st with | b :: a :: r => opr c a b :: r | r => r).length = us.length := by
        intro a b r vs e1 e2 e3
        subst e1; subst e2
        match st, hl with
        | x :: y :: s, hl => simp only [List.length_cons] at hl ⊢; omega
      split at h
      · split at h
        · exact key rfl (Option.some.inj h).symm rfl
        · cases h
      · split at h
        · split at h
          · exact key rfl (Option.some.inj h).symm rfl
          · cases h
        · split at h
          · split at h
            · exact key rfl (Option.some.inj h).symm rfl
            · cases h
          · cases h
theorem tyR_len {cd : Nat → Int32} {F : Int32 → Int32} {s : Nat} : ∀ {n : Nat} {ts : List Bool}, tyR cd s n = some ts → (rns cd F s n).length = ts.length := by
  intro n
  induction n with
  | zero => intro ts h; rw [← Option.some.inj h]; rfl
  | succ n ih =>
    intro ts h
    have h' : (tyR cd s n).bind (tyS (cd (s + n))) = some ts := h
    cases hn : tyR cd s n with
    | none => rw [hn] at h'; cases h'
    | some us => rw [hn] at h'; exact tyS_len h' (ih hn)
theorem wf_ln (h : WF w) {n : Nat} (hn : n < li w) : n < 12 ∧ (ln w n 0 = 1 ∨ ln w n 0 = -1 ∨ ln w n 0 = 0) ∧ (ln w n 1 = nI (nx (ln w n 1)) ∧ nx (ln w n 1) ≤ 99) ∧ (ln w n 2 = if n = 0 then 0 else ln w (n - 1) 3) ∧ ln w n 2 = nI (lst w n) ∧ ln w n 3 = nI (len w n) ∧ lst w n ≤ len w n ∧ len w n ≤ 400 ∧ TYl (cod w) (lst w n) (len w n - lst w n) ∧ ∀ i, i < len w n → cok (w.1 (1064 + 2 * i)) (w.1 (1065 + 2 * i)) := by
  obtain ⟨-, h2, h3⟩ := h.2
  have hl : n < 12 := by
    unfold li at hn
    split at hn
    · rename_i e
      obtain ⟨m, m1, m2⟩ := h2 e
      rw [m2, nx_nI (by omega)] at hn; omega
    · omega
  obtain ⟨k1, ⟨a, a1, a2⟩, k3, ⟨e, e1, e2, e3⟩, k5, k6⟩ := h3 n hn
  have e4 : len w n = e := by show nx (ln w n 3) = e; rw [e2, nx_nI (by omega)]
  have hs : ln w n 2 = nI (lst w n) := by
    by_cases h0 : n = 0
    · rw [if_pos h0] at k3
      show ln w n 2 = nI (nx (ln w n 2)); rw [k3]; rfl
    · rw [if_neg h0] at k3
      obtain ⟨-, -, -, ⟨e', e1', e2', -⟩, -⟩ := h3 (n - 1) (by omega)
      show ln w n 2 = nI (nx (ln w n 2)); rw [k3, e2', nx_nI (by omega)]
  exact ⟨hl, k1, nx_of a1 (by decide) a2, k3, hs, by rw [e4]; exact e2, by rw [e4]; exact e3, by rw [e4]; exact e1, k5, k6⟩
theorem cle_ge (h : WF w) {n : Nat} (hn : n < li w) : len w n ≤ cle w := by
  have key : ∀ d n, n + d + 1 = li w → len w n ≤ cle w := by
    intro d
    induction d with
    | zero =>
      intro n hd
      unfold cle; rw [if_neg (by omega), show li w - 1 = n by omega]; exact Nat.le_refl _
    | succ d ih =>
      intro n hd
      refine Nat.le_trans ?_ (ih (n + 1) (by omega))
      obtain ⟨-, -, -, k, -, -, k2, -⟩ := wf_ln h (show n + 1 < li w by omega)
      rw [if_neg (by omega), show n + 1 - 1 = n by omega] at k
      have : lst w (n + 1) = len w n := by show nx (ln w (n + 1) 2) = nx (ln w n 3); rw [k]
      omega
  exact key (li w - n - 1) n (by omega)
theorem ci_li (c : CI μ w) : mI μ 15 0 = if w.1 4 = 1 then nI (li w) else -1 := by
  rw [c.1.2.2.1.1]
  by_cases e : w.1 4 = 1
  · rw [if_pos e, if_pos e]
    obtain ⟨m, m1, m2⟩ := c.2.2.2.1 e
    unfold li; rw [if_pos e, m2, nx_nI (by omega)]
  · rw [if_neg e, if_neg e]
theorem ci_lnk (c : CI μ w) {n : Nat} (h : n < li w) : mI μ 16 n = kdc (ln w n 0) ∧ mI μ 17 n = ln w n 1 ∧ mI μ 18 n = ln w n 3 := c.1.2.2.1.2.2.1 n h
theorem ci_cod (c : CI μ w) {i : Nat} (h : i < cle w) : mI μ 19 i = cod w i := c.1.2.2.1.2.2.2 i h
theorem tyS_in {c : Int32} {ts us : List Bool} (h : tyS c ts = some us) : -8 ≤ c ∨ (c = -12 ∧ 1 ≤ ts.length) ∨ ((c = -9 ∨ c = -10 ∨ c = -11 ∨ c = -13 ∨ c = -14) ∧ 2 ≤ ts.length) := by
  unfold tyS at h
  split at h
  · rename_i q; exact Or.inl q
  · split at h
    · rename_i q; split at h
      · exact Or.inr (Or.inl ⟨q, by simp⟩)
      · cases h
    · split at h
      · rename_i q; split at h
        · exact Or.inr (Or.inr ⟨Or.inl q, by simp⟩)
        · cases h
      · split at h
        · rename_i q; split at h
          · exact Or.inr (Or.inr ⟨by rcases q with q | q <;> simp [q], by simp⟩)
          · cases h
        · split at h
          · rename_i q; split at h
            · exact Or.inr (Or.inr ⟨by rcases q with q | q <;> simp [q], by simp⟩)
            · cases h
          · cases h
theorem n8 {c : Int32} (h1 : -8 ≤ c) (h2 : c < 0) : c = -1 ∨ c = -2 ∨ c = -3 ∨ c = -4 ∨ c = -5 ∨ c = -6 ∨ c = -7 ∨ c = -8 := by
  have a1 := Int32.le_iff_toInt_le.mp h1
  have a2 := Int32.lt_iff_toInt_lt.mp h2
  rw [show (-8 : Int32).toInt = -8 by decide] at a1
  rw [show (0 : Int32).toInt = 0 by decide] at a2
  have key : ∀ d : Int32, c.toInt = d.toInt → c = d := fun d h => Int32.toInt_inj.mp h
  have : c.toInt = -1 ∨ c.toInt = -2 ∨ c.toInt = -3 ∨ c.toInt = -4 ∨ c.toInt = -5 ∨ c.toInt = -6 ∨ c.toInt = -7 ∨ c.toInt = -8 := by omega
  rcases this with h | h | h | h | h | h | h | h
  · exact Or.inl (key _ h)
  · exact Or.inr (Or.inl (key _ h))
  · exact Or.inr (Or.inr (Or.inl (key _ h)))
  · exact Or.inr (Or.inr (Or.inr (Or.inl (key _ h))))
  · exact Or.inr (Or.inr (Or.inr (Or.inr (Or.inl (key _ h)))))
  · exact Or.inr (Or.inr (Or.inr (Or.inr (Or.inr (Or.inl (key _ h))))))
  · exact Or.inr (Or.inr (Or.inr (Or.inr (Or.inr (Or.inr (Or.inl (key _ h)))))))
  · exact Or.inr (Or.inr (Or.inr (Or.inr (Or.inr (Or.inr (Or.inr (key _ h)))))))
theorem c_holds (c : CI μ w) {n : Nat} (hn : n < li w) {F : Int32 → Int32} (hF : ∀ x : Int32, -8 ≤ x → F x = if 0 ≤ x then x else mI μ 20 (nx (-1 - x))) (H : ∀ f, Φ (.inl (some (.int (b2i (hol w F n))))) (sRI μ 21 f)) : Spec g i_Law_holds 0 [.ref 15, .int (nI n)] μ Φ := by
  obtain ⟨hn12, -, -, hst, hst2, hen2, hse, hen, hty, -⟩ := wf_ln c.2 hn
  have hcl := cle_ge c.2 hn
  generalize hs : lst w n = s at *
  generalize he : len w n = e at *
  have key : ∀ f, SR f (rns (cod w) F s 0) → WW g i_Law_holds 0 Φ 0 0 19 [(0, .ref 15), (1, .int (nI n)), (2, .int (nI (rns (cod w) F s 0).length)), (3, .int (nI (s + 0)))] [] (sRI μ 21 f) := by
    refine zup (P := fun k => ∀ f, SR f (rns (cod w) F s k) → WW g i_Law_holds 0 Φ 0 0 19 [(0, .ref 15), (1, .int (nI n)), (2, .int (nI (rns (cod w) F s k).length)), (3, .int (nI (s + k)))] [] (sRI μ 21 f)) (e - s) ?_ ?_
    · intro f hf
      have H' := H f
      refine v_Law_holds_19 ⟨vp_in_nI hn12 (by decide), fun _ => ⟨fun h0 => ?_, fun h0 => ?_⟩, fun h => absurd ?_ h⟩
      · have hz : rns (cod w) F s (e - s) = [] := by
          obtain ⟨ts, t1, t2⟩ := hty.2 (e - s) (Nat.le_refl _)
          have := tyR_len (F := F) t1
          cases hq : rns (cod w) F s (e - s) with
          | nil => rfl
          | cons a r =>
            exfalso
            rw [hq] at h0 this
            exact nI_ne0 (n := (a :: r).length) (by simp) (by rw [this]; omega) h0
        have : hol w F n = true := by unfold hol; rw [hs, he, hz]; rfl
        rw [b2i_t this] at H'; exact z11 H'
      · obtain ⟨x, hx⟩ : ∃ x, rns (cod w) F s (e - s) = [x] := by
          have h1 : tyR (cod w) s (e - s) = some [true] := by
            rcases hty.1 with h | h
            · rw [h] at h0; exact absurd rfl h0
            · exact h
          have := tyR_len (F := F) h1
          match hq : rns (cod w) F s (e - s), this with
          | [x], _ => exact ⟨x, rfl⟩
        have e1 : mI (sRI μ 21 f) 21 (nx 0) = x := by
          rw [hx] at hf
          rw [rI_RI, if_pos rfl]; exact hf.1
        have e2 : hol w F n = decide (¬ x = 0) := by unfold hol; rw [hs, he, hx]; rfl
        refine ⟨vin 0 rfl, fun h => ?_, fun h => ?_⟩
        · rw [e1] at h
          rw [b2i_f (by rw [e2, h]; decide)] at H'; exact z01 H'
        · rw [e1] at h
          rw [b2i_t (by rw [e2]; simp [h])] at H'; exact z11 H'
      · rw [nx_nI (by omega)]
        show mI μ 18 n ≤ _
        rw [(ci_lnk c hn).2.2, hen2]; exact nI_le (by omega) (by omega)
    · intro k hk ih f hf
      obtain ⟨us, u1, u2⟩ := hty.2 (k + 1) (by omega)
      have u1' : (tyR (cod w) s k).bind (tyS (cod w (s + k))) = some us := u1
      obtain ⟨ts, t1, t2⟩ := hty.2 k (by omega)
      rw [t1] at u1'
      have u3 : tyS (cod w (s + k)) ts = some us := u1'
      have hlen := tyR_len (F := F) t1
      have hstp : rns (cod w) F s (k + 1) = stp F (cod w (s + k)) (rns (cod w) F s k) := rfl
      rw [hstp] at ih
      generalize hq : rns (cod w) F s k = st at *
      have ec : mI (sRI μ 21 f) 19 (nx (nI (s + k))) = cod w (s + k) := by
        rw [nx_nI (by omega)]
        exact ci_cod c (by omega)
      have hadd : nI (s + k) + 1 = nI (s + (k + 1)) := (nI_succ _).symm
      generalize hcc : cod w (s + k) = cc at *
      refine v_Law_holds_19 ⟨vp_in_nI hn12 (by decide), fun h => absurd h ?_, fun _ => ⟨vp_in_nI (by omega) (by decide), ?_⟩⟩
      · rw [nx_nI (by omega)]
        show ¬ mI μ 18 n ≤ _
        rw [(ci_lnk c hn).2.2, hen2]; exact nI_ge (by omega) (by omega)
      · rw [ec, hadd]
        rcases tyS_in u3 with q | ⟨q, ql⟩ | ⟨q, ql⟩
        · refine ⟨fun h => absurd q (Int32.not_le.mpr h), fun _ => ⟨fun h => ?_, fun _ => ?_⟩⟩
          · exact absurd h (nI_ge (a := st.length) (b := 32) (by omega) (by decide))
          · have e3 : stp F cc st = F cc :: st := by unfold stp; rw [if_pos q]
            rw [e3] at ih
            have e4 : nI st.length + 1 = nI (F cc :: st).length := (nI_succ _).symm
            rw [e4, nx_nI (show st.length < 2 ^ 31 by omega)]
            refine ⟨fun h => ⟨?_, vp_in_nI (by omega) (by decide), ?_⟩, fun h => ⟨vp_in_nI (by omega) (by decide), ?_⟩⟩
            · rcases (show cc = -1 ∨ cc = -2 ∨ cc = -3 ∨ cc = -4 ∨ cc = -5 ∨ cc = -6 ∨ cc = -7 ∨ cc = -8 from n8 q h) with r | r | r | r | r | r | r | r <;> rw [r]
              · exact vin 0 rfl
              · exact vin 1 rfl
              · exact vin 2 rfl
              · exact vin 3 rfl
              · exact vin 4 rfl
              · exact vin 5 rfl
              · exact vin 6 rfl
              · exact vin 7 rfl
            · rw [sI_sRI]
              refine ih _ ?_
              have : mI (sRI μ 21 f) 20 (nx (-1 - cc)) = F cc := by rw [hF cc q, if_neg (Int32.not_le.mpr h)]; rfl
              rw [this]; exact SR_push hf
            · rw [sI_sRI]
              refine ih _ ?_
              have : cc = F cc := by rw [hF cc q, if_pos (Int32.not_lt.mp h)]
              rw [← this]; exact SR_push hf
        · subst q
          match st, hlen, ql, hf with
          | [], hlen, ql, _ => simp at hlen; omega
          | x :: r, hlen, ql, hf =>
            refine ⟨fun _ => ⟨fun h => absurd rfl h, fun _ => ⟨fun h => absurd h (nI_nle (by simp) (by omega)), fun _ => ?_⟩⟩, fun h => absurd (show (-12 : Int32) < -8 by decide) h⟩
            rw [show nI (x :: r).length - 1 = nI r.length from nI_pred _, nx_nI (by simp at hlen; omega)]
            refine ⟨vp_in_nI (by simp at hlen; omega) (by decide), vp_in_nI (by simp at hlen; omega) (by decide), ?_⟩
            rw [sI_sRI, rI_RI, if_pos rfl, hf.1]
            exact ih _ (SR_push hf.2)
        · match st, hlen, ql, hf with
          | [], hlen, ql, _ => simp at hlen; omega
          | [_], hlen, ql, _ => simp at hlen; omega
          | b :: a :: r, hlen, ql, hf =>
            have i1 : nI (b :: a :: r).length + -1 = nI (a :: r).length := pk_m1 _
            have i2 : nI (a :: r).length - 1 = nI r.length := nI_pred _
            have l1 : (a :: r).length < 24 := by simp at hlen ⊢; omega
            have l2 : r.length < 24 := by simp at l1; omega
            have f1 : mI (sRI μ 21 f) 21 (nx (nI (a :: r).length)) = b := by rw [nx_nI (by omega), rI_RI, if_pos rfl]; exact hf.1
            have f2 : mI (sRI μ 21 f) 21 (nx (nI r.length)) = a := by rw [nx_nI (by omega), rI_RI, if_pos rfl]; exact hf.2.1
            have v1 : vp_in (nI (a :: r).length) 32 := vp_in_nI (by omega) (by decide)
            have v2 : vp_in (nI r.length) 32 := vp_in_nI (by omega) (by decide)
            have fin : ∀ y, y = opr cc a b → WW g i_Law_holds 0 Φ 0 0 19 [(0, .ref 15), (1, .int (nI n)), (2, .int (nI (a :: r).length)), (3, .int (nI (s + (k + 1))))] [] (sI (sRI μ 21 f) 21 (nx (nI r.length)) y) := by
              intro y hy
              have e5 : stp F cc (b :: a :: r) = opr cc a b :: r := by
                unfold stp
                rcases q with q | q | q | q | q <;> subst q <;> rfl
              rw [e5] at ih
              rw [sI_sRI, nx_nI (by omega), hy]
              exact ih _ (SR_push hf.2.2)
            rw [i1, i2, f1, f2]
            have n1 : ¬ nI (b :: a :: r).length ≤ 1 := nI_ge (a := 1) (by simp) (by omega)
            rcases q with q | q | q | q | q <;> subst q
            · exact ⟨fun _ => ⟨fun _ => ⟨fun h => absurd h n1, fun _ => ⟨v2, v1, fun h => absurd h (by decide), fun _ => ⟨fun h => absurd h (by decide), fun _ => ⟨fun h => absurd h (by decide), fun _ => ⟨fun h => absurd h (by decide), fun _ => ⟨fun _ => ⟨v2, fin _ rfl⟩, fun h => absurd rfl h⟩⟩⟩⟩⟩⟩, fun h => absurd h (by decide)⟩, fun h => absurd (by decide) h⟩
            · exact ⟨fun _ => ⟨fun _ => ⟨fun h => absurd h n1, fun _ => ⟨v2, v1, fun h => absurd h (by decide), fun _ => ⟨fun h => absurd h (by decide), fun _ => ⟨fun h => absurd h (by decide), fun _ => ⟨fun _ => ⟨fun h => ⟨v2, fin _ (if_neg (Int32.not_lt.mpr h)).symm⟩, fun h => ⟨v2, fin _ (if_pos (Int32.not_le.mp h)).symm⟩⟩, fun h => absurd rfl h⟩⟩⟩⟩⟩, fun h => absurd h (by decide)⟩, fun h => absurd (by decide) h⟩
            · exact ⟨fun _ => ⟨fun _ => ⟨fun h => absurd h n1, fun _ => ⟨v2, v1, fun h => absurd h (by decide), fun _ => ⟨fun h => absurd h (by decide), fun _ => ⟨fun _ => ⟨fun h => ⟨v2, fin _ (if_neg (Int32.not_lt.mpr h)).symm⟩, fun h => ⟨v2, fin _ (if_pos (Int32.not_le.mp h)).symm⟩⟩, fun h => absurd rfl h⟩⟩⟩⟩, fun h => absurd h (by decide)⟩, fun h => absurd (by decide) h⟩
            · exact ⟨fun _ => ⟨fun _ => ⟨fun h => absurd h n1, fun _ => ⟨v2, v1, fun _ => ⟨v2, fin _ rfl⟩, fun h => absurd rfl h⟩⟩, fun h => absurd h (by decide)⟩, fun h => absurd (by decide) h⟩
            · exact ⟨fun _ => ⟨fun _ => ⟨fun h => absurd h n1, fun _ => ⟨v2, v1, fun h => absurd h (by decide), fun _ => ⟨fun h => absurd h (by decide), fun _ => ⟨fun h => absurd h (by decide), fun _ => ⟨fun h => absurd h (by decide), fun _ => ⟨fun h => absurd h (by decide), fun _ => ⟨v2, fin _ rfl⟩⟩⟩⟩⟩⟩⟩, fun h => absurd h (by decide)⟩, fun h => absurd (by decide) h⟩
  have h0 := key (mI μ 21) trivial
  rw [sRI_self, Nat.add_zero] at h0
  refine spi o_Law_holds rfl (v_Law_holds_0 ⟨fun h => ?_, fun h => ?_⟩)
  · have hne : n ≠ 0 := fun q => h (by rw [q]; rfl)
    obtain ⟨m, rfl⟩ : ∃ m, n = m + 1 := ⟨n - 1, by omega⟩
    rw [show nI (m + 1) - 1 = nI m from nI_pred m]
    refine ⟨vp_in_nI (by omega) (by decide), ?_⟩
    rw [nx_nI (by omega), (ci_lnk c (show m < li w by omega)).2.2]
    rw [if_neg (by omega), show m + 1 - 1 = m by omega] at hst
    rw [← hst, hst2]; exact h0
  · have hz : n = 0 := nI_inj (by omega) (by decide) h
    subst hz
    rw [if_pos rfl, hst2] at hst
    have : s = 0 := nI_inj (by omega) (by decide) hst
    subst this; exact h0
theorem i_sac (a b c : Int32) : a - b + c = a + c - b := by grind
theorem i_ssn (a b c : Int32) : a - b + -c = a - (b + c) := by grind
theorem i_a0 (a : Int32) : a + 0 = a := by grind
theorem i_asa (a b c : Int32) : a + (b - c) = a + b - c := by grind
theorem smN_le (h : WF w) (F : Int32 → Int32) (kd : Int32) : ∀ n, n ≤ li w → smN w F kd n ≤ 99 * n := by
  intro n
  induction n with
  | zero => intro _; exact Nat.le_refl _
  | succ n ih =>
    intro hn
    have := ih (by omega)
    have h2 := (wf_ln h (show n < li w by omega)).2.2.1.2
    unfold smN; split <;> omega
theorem li_le (h : WF w) : li w ≤ 12 := by
  rcases Nat.lt_or_ge 12 (li w) with q | q
  · have := (wf_ln h (n := 12) q).1; omega
  · exact q
theorem smm_le (h : WF w) (F : Int32 → Int32) (kd : Int32) : smm w F kd ≤ 1188 := by
  have := smN_le h F kd (li w) (Nat.le_refl _)
  have := li_le h
  unfold smm; omega
theorem ci_lile (c : CI μ w) {j : Nat} (hj : j < 2 ^ 31) : mI μ 15 0 ≤ nI j ↔ li w ≤ j := by
  rw [ci_li c]
  have := li_le c.2
  split
  · exact nI_leI (by omega) hj
  · rename_i e
    have : li w = 0 := by unfold li; rw [if_neg e]
    rw [this]
    refine ⟨fun _ => Nat.zero_le _, fun _ => ?_⟩
    rw [Int32.le_iff_toInt_le, nI_toInt hj, show (-1 : Int32).toInt = -1 by decide]; omega
theorem fac_v {who t q whom : Nat} {k : Bool} : fac w who t q whom k (-1) = nI t ∧ fac w who t q whom k (-2) = nI q ∧ fac w who t q whom k (-3) = nI who ∧ fac w who t q whom k (-4) = nI whom ∧ fac w who t q whom k (-5) = apa w who whom ∧ fac w who t q whom k (-6) = pf w whom 2 ∧ fac w who t q whom k (-7) = w.1 5 ∧ fac w who t q whom k (-8) = b2i k := by
  unfold fac
  refine ⟨?_, ?_, ?_, ?_, ?_, ?_, ?_, ?_⟩
  · rw [if_neg (by decide), if_pos (Eq.refl _)]
  · rw [if_neg (by decide), if_neg (by decide), if_pos (Eq.refl _)]
  · rw [if_neg (by decide), if_neg (by decide), if_neg (by decide), if_pos (Eq.refl _)]
  · rw [if_neg (by decide), if_neg (by decide), if_neg (by decide), if_neg (by decide), if_pos (Eq.refl _)]
  · rw [if_neg (by decide), if_neg (by decide), if_neg (by decide), if_neg (by decide), if_neg (by decide), if_pos (Eq.refl _)]
  · rw [if_neg (by decide), if_neg (by decide), if_neg (by decide), if_neg (by decide), if_neg (by decide), if_neg (by decide), if_pos (Eq.refl _)]
  · rw [if_neg (by decide), if_neg (by decide), if_neg (by decide), if_neg (by decide), if_neg (by decide), if_neg (by decide), if_neg (by decide), if_pos (Eq.refl _)]
  · rw [if_neg (by decide), if_neg (by decide), if_neg (by decide), if_neg (by decide), if_neg (by decide), if_neg (by decide), if_neg (by decide), if_neg (by decide)]
theorem fac_of {who t q whom : Nat} {k : Bool} {G : Nat → Int32} (h0 : G 0 = nI t) (h1 : G 1 = nI q) (h2 : G 2 = nI who) (h3 : G 3 = nI whom) (h4 : G 4 = apa w who whom) (h5 : G 5 = pf w whom 2) (h6 : G 6 = w.1 5) (h7 : G 7 = b2i k) : ∀ x : Int32, -8 ≤ x → fac w who t q whom k x = if 0 ≤ x then x else G (nx (-1 - x)) := by
  intro x hx
  obtain ⟨f1, f2, f3, f4, f5, f6, f7, f8⟩ := fac_v (w := w) (who := who) (t := t) (q := q) (whom := whom) (k := k)
  by_cases h : 0 ≤ x
  · unfold fac; rw [if_pos h, if_pos h]
  · rw [if_neg h]
    rcases n8 hx (Int32.not_le.mp h) with r | r | r | r | r | r | r | r <;> subst r
    · rw [f1, show nx (-1 - -1) = 0 by decide, h0]
    · rw [f2, show nx (-1 - -2) = 1 by decide, h1]
    · rw [f3, show nx (-1 - -3) = 2 by decide, h2]
    · rw [f4, show nx (-1 - -4) = 3 by decide, h3]
    · rw [f5, show nx (-1 - -5) = 4 by decide, h4]
    · rw [f6, show nx (-1 - -6) = 5 by decide, h5]
    · rw [f7, show nx (-1 - -7) = 6 by decide, h6]
    · rw [f8, show nx (-1 - -8) = 7 by decide, h7]
theorem smN_t {F : Int32 → Int32} {kd : Int32} {n : Nat} (h : ln w n 0 = kd) (h2 : hol w F n = true) : smN w F kd (n + 1) = smN w F kd n + nx (ln w n 1) := by show _ + (if _ then _ else _) = _; rw [if_pos ⟨h, h2⟩]
theorem smN_f {F : Int32 → Int32} {kd : Int32} {n : Nat} (h : ¬ (ln w n 0 = kd ∧ hol w F n = true)) : smN w F kd (n + 1) = smN w F kd n := by show _ + (if _ then _ else _) = _; rw [if_neg h]; exact Nat.add_zero _
theorem c_tell {a b c d : Int32} (H : Φ (.inl none) (sI (sI (sI (sI μ 20 0 b) 20 1 c) 20 2 a) 20 3 d)) : Spec g i_Law_tell 0 [.ref 15, .int a, .int b, .int c, .int d] μ Φ :=
  spi o_Law_tell rfl (v_Law_tell_0 ⟨vin 0 rfl, vin 1 rfl, vin 2 rfl, vin 3 rfl, H⟩)
theorem c_judge (c : CI μ w) {who t q whom : Nat} (k : Bool) (h0 : mI μ 20 0 = nI t) (h1 : mI μ 20 1 = nI q) (h2 : mI μ 20 2 = nI who) (h3 : mI μ 20 3 = nI whom)
    (H : ∀ μ', Lz zT μ' = Lz zT μ → mI μ' 15 8 = nI (smm w (fac w who t q whom k) 1) - nI (smm w (fac w who t q whom k) (-1)) → mI μ' 15 9 = nI (smm w (fac w who t q whom k) 0) → Φ (.inl none) μ') :
    Spec g i_Law_judge 0 [.ref 15, .int (apa w who whom), .int (pf w whom 2), .int (w.1 5), .int (b2i k)] μ Φ := by
  have loop : ∀ μ', Lz zT μ' = Lz zT μ → (∀ x : Int32, -8 ≤ x → fac w who t q whom k x = if 0 ≤ x then x else mI μ' 20 (nx (-1 - x))) → mI μ' 15 8 = 0 → mI μ' 15 9 = 0 → WW g i_Law_judge 0 Φ 0 0 52 [(0, .ref 15), (5, .int 0)] [] μ' := by
    generalize fac w who t q whom k = F at *
    have key := zup (P := fun j => ∀ μ', Lz zT μ' = Lz zT μ → (∀ x : Int32, -8 ≤ x → F x = if 0 ≤ x then x else mI μ' 20 (nx (-1 - x))) → mI μ' 15 8 = nI (smN w F 1 j) - nI (smN w F (-1) j) → mI μ' 15 9 = nI (smN w F 0 j) → WW g i_Law_judge 0 Φ 0 0 52 [(0, .ref 15), (5, .int (nI j))] [] μ') (li w) ?_ ?_
    · intro μ' e1 e2 e3 e4
      exact key μ' e1 e2 (e3.trans (show (0 : Int32) = nI 0 - nI 0 by decide)) e4
    · intro μ' e1 e2 e3 e4
      have c' := c.lv (zT_scr e1)
      have := li_le c.2
      exact v_Law_judge_52 ⟨fun _ => H μ' e1 e3 e4, fun h => absurd ((ci_lile c' (by omega)).mpr (Nat.le_refl _)) h⟩
    · intro j hj ih μ' e1 e2 e3 e4
      have c' := c.lv (zT_scr e1)
      have l12 := li_le c.2
      obtain ⟨hj12, hkd, ⟨ha, ha99⟩, -⟩ := wf_ln c.2 hj
      refine v_Law_judge_52 ⟨fun h => absurd ((ci_lile c' (by omega)).mp h) (by omega), fun _ => c_holds c' hj e2 fun f => oI ⟨fun h => ?_, fun h => ?_⟩⟩
      · rw [b2i_0] at h
        rw [← nI_succ]
        refine ih _ ((Lz_RI fun _ => rfl).trans e1) e2 ?_ ?_
        · show mI μ' 15 8 = _
          rw [e3, smN_f (by simp [h]), smN_f (by simp [h])]
        · show mI μ' 15 9 = _
          rw [e4, smN_f (by simp [h])]
      · rw [b2i_n0] at h
        have v12 : vp_in (nI j) 12 := vp_in_nI hj12 (by decide)
        have ek : mI (sRI μ' 21 f) 16 (nx (nI j)) = kdc (ln w j 0) := by rw [nx_nI (by omega)]; exact (ci_lnk c' hj).1
        have ea : mI (sRI μ' 21 f) 17 (nx (nI j)) = nI (nx (ln w j 1)) := by rw [nx_nI (by omega), ← ha]; exact (ci_lnk c' hj).2.1
        have e8 : mI (sRI μ' 21 f) 15 8 = nI (smN w F 1 j) - nI (smN w F (-1) j) := e3
        have e9 : mI (sRI μ' 21 f) 15 9 = nI (smN w F 0 j) := e4
        have fin : ∀ x y, x = nI (smN w F 1 (j + 1)) - nI (smN w F (-1) (j + 1)) → y = nI (smN w F 0 (j + 1)) → WW g i_Law_judge 0 Φ 0 0 52 [(0, .ref 15), (5, .int (nI j + 1))] [] (sI (sI (sRI μ' 21 f) 15 8 x) 15 9 y) := by
          intro x y hx hy
          rw [← nI_succ]
          refine ih _ ((Lz_I rfl).trans ((Lz_I rfl).trans ((Lz_RI fun _ => rfl).trans e1))) e2 ?_ ?_
          · rw [rI_I, if_pos rfl, upd_n (by decide), rI_I, if_pos rfl, upd_s, hx]
          · rw [rI_I, if_pos rfl, upd_s, hy]
        rw [ek, ea, e8, e9]
        have s1 : ∀ kd : Int32, ln w j 0 = kd → smN w F kd (j + 1) = smN w F kd j + nx (ln w j 1) := fun kd e => smN_t e h
        have s2 : ∀ kd : Int32, ln w j 0 ≠ kd → smN w F kd (j + 1) = smN w F kd j := fun kd e => smN_f fun q => e q.1
        rcases hkd with q | q | q
        · rw [show kdc (ln w j 0) = 0 by rw [q]; rfl]
          refine ⟨v12, fun h => absurd rfl h, fun _ => ⟨v12, v12, fun _ => fin _ _ ?_ ?_, fun h => absurd h (by decide)⟩⟩
          · rw [s1 1 q, s2 (-1) (by rw [q]; decide), ← nI_add, i_sac]
          · rw [s2 0 (by rw [q]; decide), i_a0]
        · rw [show kdc (ln w j 0) = 1 by rw [q]; rfl]
          refine ⟨v12, fun _ => ⟨v12, fun h => absurd rfl h, fun _ => ⟨v12, v12, fun _ => fin _ _ ?_ ?_, fun h => absurd h (by decide)⟩⟩, fun h => absurd h (by decide)⟩
          · rw [s1 (-1) q, s2 1 (by rw [q]; decide), ← nI_add, i_ssn]
          · rw [s2 0 (by rw [q]; decide), i_a0]
        · rw [show kdc (ln w j 0) = 2 by rw [q]; rfl]
          refine ⟨v12, fun _ => ⟨v12, fun _ => ⟨v12, fun h => absurd rfl h, fun _ => ⟨v12, fin _ _ ?_ ?_⟩⟩, fun h => absurd h (by decide)⟩, fun h => absurd h (by decide)⟩
          · rw [s2 1 (by rw [q]; decide), s2 (-1) (by rw [q]; decide), i_a0]
          · rw [s1 0 q, ← nI_add]
  have hz : ∀ v : Int32, v = b2i k → WW g i_Law_judge 0 Φ 0 0 52 [(0, .ref 15), (5, .int 0)] [] (sI (sI (sI (sI (sI (sI μ 20 (nx 4) (apa w who whom)) 20 (nx 5) (pf w whom 2)) 20 (nx 6) (w.1 5)) 20 (nx 7) v) 15 8 0) 15 9 0) := by
    intro v hv
    refine loop _ ?_ (fac_of (G := mI (sI (sI (sI (sI (sI (sI μ 20 (nx 4) (apa w who whom)) 20 (nx 5) (pf w whom 2)) 20 (nx 6) (w.1 5)) 20 (nx 7) v) 15 8 0) 15 9 0) 20) h0 h1 h2 h3 rfl rfl rfl hv) rfl rfl
    exact (Lz_I rfl).trans ((Lz_I rfl).trans ((Lz_I rfl).trans ((Lz_I rfl).trans ((Lz_I rfl).trans (Lz_I rfl)))))
  refine spi o_Law_judge rfl (v_Law_judge_0 ⟨vin 4 rfl, vin 5 rfl, vin 6 rfl, fun h => ⟨vin 7 rfl, hz 0 h.symm⟩, fun h => ⟨vin 7 rfl, hz 1 ?_⟩⟩)
  rw [b2i_n0] at h; rw [h]; rfl
def tkx (w : WD) (who t q p : Nat) (k : Bool) : Option Nat := if p = who then none else tk w who t q p k
theorem c_taken (c : CI μ w) {who t q whom : Nat} (k : Bool) (hw : who < 10) (ht : t < th w) (hp : whom < 10) (H : ∀ μ', Lz zT μ' = Lz zT μ → Φ (.inl (some (.int (ov (tkx w who t q whom k))))) μ') :
    Spec g i_Sch_taken 0 [.ref 3, .int (nI who), .int (nI t), .int (nI q), .int (nI whom), .int (b2i k)] μ Φ := by
  have t10 := ci_t10 c
  refine spi o_Sch_taken rfl (v_Sch_taken_0 ⟨fun h => ?_, fun h => ?_⟩)
  · have e : who = whom := nI_inj (by omega) (by omega) h
    have H' := H μ rfl
    unfold tkx at H'; rw [if_pos e.symm] at H'; exact H'
  · have e : ¬ whom = who := fun q => h (by rw [q])
    have H2 : ∀ μ', Lz zT μ' = Lz zT μ → Φ (.inl (some (.int (ov (tk w who t q whom k))))) μ' := by
      intro μ' e'
      have := H μ' e'
      unfold tkx at this; rw [if_neg e] at this; exact this
    have hno : ∀ μ', Lz zT μ' = Lz zT μ → (her w who && (her w whom && hea w who t q whom k)) = false → Φ (.inl (some (.int (-1)))) μ' := by
      intro μ' e1 e2
      have := H2 μ' e1
      unfold tk at this; rw [if_neg (by rw [e2]; decide)] at this; exact this
    refine c_abs c hw (oI ⟨fun h1 => hno μ rfl ?_, fun h1 => c_abs c hp (oI ⟨fun h2 => hno μ rfl ?_, fun h2 => ⟨fun h3 => ?_, fun h3 => absurd ?_ h3⟩⟩)⟩)
    · rw [b2i_n0] at h1
      rw [show her w who = false by simpa using h1]; rfl
    · rw [b2i_n0] at h2
      rw [show her w whom = false by simpa using h2]; cases her w who <;> rfl
    · rw [b2i_0, Bool.not_eq_false'] at h1 h2
      refine c_dist c hw hp (oI ⟨vp_in_nI hp (by decide), c_tell (oV ?_)⟩)
      rw [nx_nI (show whom < 2 ^ 31 by omega), ci_ear c hp]
      have c' : CI (sI (sI (sI (sI μ 20 0 (nI t)) 20 1 (nI q)) 20 2 (nI who)) 20 3 (nI whom)) w := c
      have ed : mI (sI (sI (sI (sI μ 20 0 (nI t)) 20 1 (nI q)) 20 2 (nI who)) 20 3 (nI whom)) 11 5 = w.1 5 := ci_day c
      rw [ed]
      refine c_judge c' k rfl rfl rfl rfl fun μ' e1 e8 e9 => oV ?_
      have e1' : Lz zT μ' = Lz zT μ := e1.trans ((Lz_I rfl).trans ((Lz_I rfl).trans ((Lz_I rfl).trans (Lz_I rfl))))
      have cc := c.lv (zT_scr e1')
      have eth : mI μ' 4 0 = nI (th w) := ci_th cc
      have eld : mI μ' 4 9 = w.1 6 := cc.1.1.2.2.2.1
      have hs := smm_le c.2 (fac w who t q whom k) 0
      rw [e8, e9, eth, eld, nI_add, pk_rem (by omega) (by omega) (by omega), i_asa]
      refine ⟨fun h4 => ⟨nI_ne0 (by omega) (by omega), ?_⟩, fun h4 => hno μ' e1' ?_⟩
      · have := H2 μ' e1'
        unfold tk at this
        rw [if_pos (by rw [h1, h2]; unfold hea; simp [h4])] at this
        exact this
      · rw [h1, h2]; unfold hea; simp [h4]
    · rw [ci_th c]; exact nI_lt (a := 0) (by omega) (by omega)
end CA
