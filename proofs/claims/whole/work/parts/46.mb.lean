/-! contracts of the reference: the law's lines, who takes what as what, who hears -/
section MB
variable {g : Gl} {Φ : Out → Mem → Prop} {μ : Mem} {w : WD}
theorem fac8 {who t q whom : Nat} {k : Bool} : fac w who t q whom k (-8) = 0 ∨ fac w who t q whom k (-8) = 1 := b2i_or k
theorem enc_hi {s n : Int32} (h : cok s n) (h8 : ¬ s ≤ 8) : (s = 9 ∧ enc s n = -9) ∨ (s = 10 ∧ enc s n = -10) ∨ (s = 11 ∧ enc s n = -11) ∨ (s = 12 ∧ enc s n = -12) ∨ (s = 13 ∧ enc s n = -13) ∨ (s = 14 ∧ enc s n = -14) := by
  rcases h with ⟨k, hk, rfl, rfl⟩ | ⟨j, hj, hj8, rfl⟩
  · exact absurd (by decide) h8
  · have hj9 : 9 ≤ j := by
      rcases Nat.lt_or_ge j 9 with q | q
      · exact absurd (nI_le (a := j) (b := 8) (by omega) (by decide)) h8
      · exact q
    match j, hj9, hj with
    | 9, _, _ => exact Or.inl ⟨rfl, rfl⟩
    | 10, _, _ => exact Or.inr (Or.inl ⟨rfl, rfl⟩)
    | 11, _, _ => exact Or.inr (Or.inr (Or.inl ⟨rfl, rfl⟩))
    | 12, _, _ => exact Or.inr (Or.inr (Or.inr (Or.inl ⟨rfl, rfl⟩)))
    | 13, _, _ => exact Or.inr (Or.inr (Or.inr (Or.inr (Or.inl ⟨rfl, rfl⟩))))
    | 14, _, _ => exact Or.inr (Or.inr (Or.inr (Or.inr (Or.inr ⟨rfl, rfl⟩))))
theorem enc_lo {s n : Int32} (h : cok s n) (h8 : s ≤ 8) : -8 ≤ enc s n := by
  rcases h with ⟨k, hk, rfl, rfl⟩ | ⟨j, hj, hj8, rfl⟩
  · rw [show enc 8 (nI k) = nI k from if_pos rfl]
    rw [Int32.le_iff_toInt_le, nI_toInt (by omega), show (-8 : Int32).toInt = -8 by decide]; omega
  · have hj7 : j < 8 := by
      have := (nI_leI (show j < 2 ^ 31 by omega) (show 8 < 2 ^ 31 by decide)).mp h8; omega
    obtain ⟨w0, w1, w2, w3, w4, w5, w6, w7⟩ := enc_v n
    match j, hj7 with
    | 0, _ => rw [w0]; decide
    | 1, _ => rw [w1]; decide
    | 2, _ => rw [w2]; decide
    | 3, _ => rw [w3]; decide
    | 4, _ => rw [w4]; decide
    | 5, _ => rw [w5]; decide
    | 6, _ => rw [w6]; decide
    | 7, _ => rw [w7]; decide
theorem and2 {a b : Int32} (ha : a = 0 ∨ a = 1) (hb : b = 0 ∨ b = 1) : (a + b = 2 → a &&& b = 1) ∧ (¬ a + b = 2 → a &&& b = 0) ∧ (a + b ≤ 0 → a ||| b = 0) ∧ (¬ a + b ≤ 0 → a ||| b = 1) := by
  rcases ha with rfl | rfl <;> rcases hb with rfl | rfl <;> decide
theorem m_holds (m : MW μ w) {n who t q whom : Nat} (hn : n < li w) (ht : t < 10) (hq : q < 6) (hw : who < 10) (hp : whom < 10) (H : ∀ f, Φ (.inl (some (.int (b2i (hol w (fac w who t q whom (kno w whom t)) n))))) (sRI μ 149 f)) :
    Spec g i_Mo_holdsLine 0 [.ref 140, .int (nI n), .int (nI (6 * t + q)), .int (nI who), .int (nI whom)] μ Φ := by
  obtain ⟨hn12, -, -, -, hst2, hen2, hse, hen, hty, hck⟩ := wf_ln m.2 hn
  have hF := fac8 (w := w) (who := who) (t := t) (q := q) (whom := whom) (k := kno w whom t)
  have hfac : ∀ (f : Nat → Int32) (Ψ : Out → Mem → Prop) (s n : Int32), cok s n → s ≤ 8 → Ψ (.inl (some (.int (fac w who t q whom (kno w whom t) (enc s n))))) (sRI μ 149 f) → Spec g i_Mo_factOf 0 [.ref 140, .int s, .int n, .int (nI (6 * t + q)), .int (nI who), .int (nI whom)] (sRI μ 149 f) Ψ := fun f Ψ s n h1 h2 h3 => m_fac (MW_149 m f) h1 h2 ht hq hw hp h3
  have ei : ∀ (f : Nat → Int32) j, mI (sRI μ 149 f) 141 j = w.1 j := fun f j => by rw [mw_i (MW_149 m f)]
  generalize fac w who t q whom (kno w whom t) = F at *
  have es : w.1 (1016 + 4 * n + 2) = nI (lst w n) := hst2
  have ee : w.1 (1016 + 4 * n + 3) = nI (len w n) := hen2
  have key : ∀ f, SR f (rns (cod w) F (lst w n) 0) → WW g i_Mo_holdsLine 0 Φ 0 0 23 [(0, .ref 140), (2, .int (nI (6 * t + q))), (3, .int (nI who)), (4, .int (nI whom)), (5, .int (nI (rns (cod w) F (lst w n) 0).length)), (6, .int (nI (1016 + 4 * n))), (7, .int (nI (lst w n + 0)))] [] (sRI μ 149 f) := by
    have hh : ∀ st, rns (cod w) F (lst w n) (len w n - lst w n) = st → hol w F n = top0 st := fun st e => by unfold hol; rw [e]
    generalize lst w n = s at *
    generalize len w n = e at *
    refine zup (P := fun k => ∀ f, SR f (rns (cod w) F s k) → WW g i_Mo_holdsLine 0 Φ 0 0 23 [(0, .ref 140), (2, .int (nI (6 * t + q))), (3, .int (nI who)), (4, .int (nI whom)), (5, .int (nI (rns (cod w) F s k).length)), (6, .int (nI (1016 + 4 * n))), (7, .int (nI (s + k)))] [] (sRI μ 149 f)) (e - s) ?_ ?_
    · intro f hf
      have H' := H f
      have i3 : nI (1016 + 4 * n) + 3 = nI (1016 + 4 * n + 3) := nI_add (1016 + 4 * n) 3
      refine v_Mo_holdsLine_23 ?_
      rw [i3, nx_nI (by omega), ei, ee]
      refine ⟨vp_in_nI (by omega) (by decide), fun _ => ⟨fun h0 => ?_, fun h0 => ?_⟩, fun h => absurd (nI_le (by omega) (by omega)) h⟩
      · have hz : rns (cod w) F s (e - s) = [] := by
          obtain ⟨ts, t1, t2⟩ := hty.2 (e - s) (Nat.le_refl _)
          have := tyR_len (F := F) t1
          cases hq : rns (cod w) F s (e - s) with
          | nil => rfl
          | cons a r =>
            exfalso
            rw [hq] at h0 this
            exact nI_ne0 (n := (a :: r).length) (by simp) (by rw [this]; omega) h0
        rw [b2i_t (show hol w F n = true from hh _ hz)] at H'; exact z11 H'
      · have h1 : tyR (cod w) s (e - s) = some [true] := by
          rcases hty.1 with h | h
          · rw [h] at h0; exact absurd rfl h0
          · exact h
        have hv := VT_run hF h1
        obtain ⟨x, hx⟩ : ∃ x, rns (cod w) F s (e - s) = [x] := by
          have := tyR_len (F := F) h1
          match hq : rns (cod w) F s (e - s), this with
          | [x], _ => exact ⟨x, rfl⟩
        rw [hx] at hv hf
        have e1 : mI (sRI μ 149 f) 149 (nx 0) = x := by rw [rI_RI, if_pos rfl]; exact hf.1
        refine ⟨vin 0 rfl, fun h => ?_, fun h => ?_⟩
        · rw [e1] at h
          have h0 : x = 0 := (hv.1 rfl).resolve_right h
          rw [b2i_f (show hol w F n = false by rw [hh _ hx, h0]; decide)] at H'; exact z01 H'
        · rw [e1] at h
          rw [b2i_t (show hol w F n = true by rw [hh _ hx, h]; decide)] at H'; exact z11 H'
    · intro k hk ih f hf
      obtain ⟨us, u1, u2⟩ := hty.2 (k + 1) (by omega)
      have u1' : (tyR (cod w) s k).bind (tyS (cod w (s + k))) = some us := u1
      obtain ⟨ts, t1, t2⟩ := hty.2 k (by omega)
      rw [t1] at u1'
      have u3 : tyS (cod w (s + k)) ts = some us := u1'
      have hlen := tyR_len (F := F) t1
      have hvt := VT_run hF t1
      have hstp : rns (cod w) F s (k + 1) = stp F (cod w (s + k)) (rns (cod w) F s k) := rfl
      rw [hstp] at ih
      generalize hq : rns (cod w) F s k = st at *
      have hck1 := hck (s + k) (by omega)
      have hcc : cod w (s + k) = enc (w.1 (1064 + 2 * (s + k))) (w.1 (1065 + 2 * (s + k))) := rfl
      rw [hcc] at u3 ih
      have hadd : nI (s + k) + 1 = nI (s + (k + 1)) := (nI_succ _).symm
      have i3 : nI (1016 + 4 * n) + 3 = nI (1016 + 4 * n + 3) := nI_add (1016 + 4 * n) 3
      have i4 : (1064 : Int32) + 2 * nI (s + k) = nI (1064 + 2 * (s + k)) := by rw [show (1064 : Int32) = nI 1064 from rfl, show (2 : Int32) = nI 2 from rfl, pk_mul, nI_add]
      have i5 : nI (1064 + 2 * (s + k)) + 1 = nI (1065 + 2 * (s + k)) := by rw [← nI_succ]; congr 1; omega
      refine v_Mo_holdsLine_23 ?_
      rw [i3, i4, i5, nx_nI (show 1016 + 4 * n + 3 < 2 ^ 31 by omega), nx_nI (show 1064 + 2 * (s + k) < 2 ^ 31 by omega), nx_nI (show 1065 + 2 * (s + k) < 2 ^ 31 by omega), ei, ei, ei, ee, hadd]
      generalize w.1 (1064 + 2 * (s + k)) = sa at *
      generalize w.1 (1065 + 2 * (s + k)) = sb at *
      refine ⟨vp_in_nI (by omega) (by decide), fun h => absurd h (nI_ge (by omega) (by omega)), fun _ => ⟨vp_in_nI (by omega) (by decide), fun h8 => ?_, fun h8 => ⟨vp_in_nI (by omega) (by decide), hfac f _ _ _ hck1 (Int32.not_lt.mp h8) (oI ⟨vp_in_nI (by omega) (by decide), ?_⟩)⟩⟩⟩
      · have hin := tyS_in u3
        have hev := enc_hi hck1 (fun h => absurd h8 (Int32.not_lt.mpr h))
        generalize enc sa sb = cc at hev u3 ih hin
        rcases hev with ⟨rfl, qe⟩ | ⟨rfl, qe⟩ | ⟨rfl, qe⟩ | ⟨rfl, qe⟩ | ⟨rfl, qe⟩ | ⟨rfl, qe⟩
        case inr.inr.inr.inl =>
          subst qe
          have ql : 1 ≤ ts.length := by
            rcases hin with h | h | h
            · exact absurd h (by decide)
            · exact h.2
            · exact absurd h.1 (by decide)
          match st, hlen, hf with
          | [], hlen, _ => simp at hlen; omega
          | x :: r, hlen, hf =>
            have l1 : r.length < 24 := by simp at hlen; omega
            refine ⟨fun h => absurd rfl h, fun _ => ?_⟩
            rw [show nI (x :: r).length - 1 = nI r.length from nI_pred _, nx_nI (by omega)]
            refine ⟨vp_in_nI (by omega) (by decide), vp_in_nI (by omega) (by decide), ?_⟩
            rw [sI_sRI, rI_RI, if_pos rfl, hf.1]
            exact ih _ (SR_push hf.2)
        all_goals
          have ql : 2 ≤ ts.length := by
            rcases hin with h | h | h
            · exact absurd h (by rw [qe]; decide)
            · exact absurd h.1 (by rw [qe]; decide)
            · exact h.2
          match st, ts, hlen, t2, hvt, u3, ih, hf, ql with
          | [], ts, hlen, _, _, _, _, _, ql => simp at hlen; omega
          | [_], ts, hlen, _, _, _, _, _, ql => simp at hlen; omega
          | b :: a :: r, [], _, _, _, _, _, _, ql => simp at ql
          | b :: a :: r, [_], _, _, _, _, _, _, ql => simp at ql
          | b :: a :: r, tb :: ta :: tr, hlen, t2, hvt, u3, ih, hf, ql =>
            have i1 : nI (b :: a :: r).length + -1 = nI (a :: r).length := pk_m1 _
            have i2 : nI (a :: r).length - 1 = nI r.length := nI_pred _
            have l1 : (a :: r).length < 24 := by simp at hlen t2 ⊢; omega
            have l2 : r.length < 24 := by simp at l1; omega
            have f1 : mI (sRI μ 149 f) 149 (nx (nI (a :: r).length)) = b := by rw [nx_nI (by omega), rI_RI, if_pos rfl]; exact hf.1
            have f2 : mI (sRI μ 149 f) 149 (nx (nI r.length)) = a := by rw [nx_nI (by omega), rI_RI, if_pos rfl]; exact hf.2.1
            have v1 : vp_in (nI (a :: r).length) 400 := vp_in_nI (by omega) (by decide)
            have v2 : vp_in (nI r.length) 400 := vp_in_nI (by omega) (by decide)
            rw [i1, i2, f1, f2]
            have fin : ∀ y, stp F cc (b :: a :: r) = y :: r → WW g i_Mo_holdsLine 0 Φ 0 0 23 [(0, .ref 140), (2, .int (nI (6 * t + q))), (3, .int (nI who)), (4, .int (nI whom)), (5, .int (nI (a :: r).length)), (6, .int (nI (1016 + 4 * n))), (7, .int (nI (s + (k + 1))))] [] (sI (sRI μ 149 f) 149 (nx (nI r.length)) y) := by
              intro y hy
              rw [hy] at ih
              rw [sI_sRI, nx_nI (by omega)]
              exact ih _ (SR_push hf.2.2)
            subst qe
            refine ⟨fun _ => ⟨v2, v1, ?_⟩, fun h => absurd h (by decide)⟩
            first
            | (refine ⟨fun _ => ⟨fun _ => ⟨fun _ => ⟨fun _ => ⟨fun h => absurd rfl h, fun _ => ⟨v2, fin _ rfl⟩⟩, fun _ => ⟨fun h => absurd rfl h, fun _ => ⟨v2, fin _ rfl⟩⟩⟩, fun h => absurd h (by decide)⟩, fun h => absurd h (by decide)⟩, fun h => absurd h (by decide)⟩; done)
            | (refine ⟨fun h => absurd rfl h, fun _ => ⟨fun hc => ⟨fun _ => ⟨fun _ => ⟨v2, fin _ ?_⟩, fun h => absurd rfl h⟩, fun h => absurd h (by decide)⟩, fun hc => ⟨fun _ => ⟨fun h => absurd h (by decide), fun _ => ⟨v2, fin _ ?_⟩⟩, fun h => absurd h (by decide)⟩⟩⟩
               · show (if a < b then (1 : Int32) else 0) :: r = _; rw [if_neg (Int32.not_lt.mpr hc)]
               · show (if a < b then (1 : Int32) else 0) :: r = _; rw [if_pos (Int32.not_le.mp hc)])
            | (refine ⟨fun _ => ⟨fun h => absurd rfl h, fun _ => ⟨fun hc => ⟨fun _ => ⟨fun _ => ⟨v2, fin _ ?_⟩, fun h => absurd rfl h⟩, fun h => absurd h (by decide)⟩, fun hc => ⟨fun _ => ⟨fun h => absurd h (by decide), fun _ => ⟨v2, fin _ ?_⟩⟩, fun h => absurd h (by decide)⟩⟩⟩, fun h => absurd h (by decide)⟩
               · show (if b < a then (1 : Int32) else 0) :: r = _; rw [if_neg (Int32.not_lt.mpr hc)]
               · show (if b < a then (1 : Int32) else 0) :: r = _; rw [if_pos (Int32.not_le.mp hc)])
            | (have ha : (a = 0 ∨ a = 1) ∧ (b = 0 ∨ b = 1) := by
                 unfold tyS at u3
                 simp at u3
                 match tb, ta, u3, hvt with
                 | true, true, _, hvt => exact ⟨hvt.2.1 rfl, hvt.1 rfl⟩
               obtain ⟨a1, a2, a3, a4⟩ := and2 ha.1 ha.2
               first
               | (refine ⟨fun _ => ⟨fun _ => ⟨fun h => absurd rfl h, fun _ => ⟨fun hc => ⟨fun _ => ⟨fun _ => ⟨v2, fin _ ?_⟩, fun h => absurd rfl h⟩, fun h => absurd h (by decide)⟩, fun hc => ⟨fun _ => ⟨fun h => absurd h (by decide), fun _ => ⟨v2, fin _ ?_⟩⟩, fun h => absurd h (by decide)⟩⟩⟩, fun h => absurd h (by decide)⟩, fun h => absurd h (by decide)⟩
                  · show (a &&& b) :: r = _; rw [a2 hc]
                  · show (a &&& b) :: r = _; rw [a1 hc])
               | (refine ⟨fun _ => ⟨fun _ => ⟨fun _ => ⟨fun hc => ⟨fun _ => ⟨fun _ => ⟨v2, fin _ ?_⟩, fun h => absurd rfl h⟩, fun h => absurd h (by decide)⟩, fun hc => ⟨fun _ => ⟨fun h => absurd h (by decide), fun _ => ⟨v2, fin _ ?_⟩⟩, fun h => absurd h (by decide)⟩⟩, fun h => absurd h (by decide)⟩, fun h => absurd h (by decide)⟩, fun h => absurd h (by decide)⟩
                  · show (a ||| b) :: r = _; rw [a3 hc]
                  · show (a ||| b) :: r = _; rw [a4 hc]))
      · have e3 : stp F (enc sa sb) st = F (enc sa sb) :: st := by unfold stp; rw [if_pos (enc_lo hck1 (Int32.not_lt.mp h8))]
        rw [e3] at ih
        rw [show nI st.length + 1 = nI (F (enc sa sb) :: st).length from (nI_succ _).symm, nx_nI (show st.length < 2 ^ 31 by omega), sI_sRI]
        exact ih _ (SR_push hf)
  have h0 := key (mI μ 149) trivial
  rw [sRI_self, Nat.add_zero] at h0
  refine spi o_Mo_holdsLine rfl (v_Mo_holdsLine_0 ?_)
  have i1 : (1016 : Int32) + 4 * nI n = nI (1016 + 4 * n) := by rw [show (1016 : Int32) = nI 1016 from rfl, show (4 : Int32) = nI 4 from rfl, pk_mul, nI_add]
  have i2 : nI (1016 + 4 * n) + 2 = nI (1016 + 4 * n + 2) := nI_add (1016 + 4 * n) 2
  rw [i1, i2, nx_nI (by omega), mw_i m, es]
  exact ⟨vp_in_nI (by omega) (by decide), h0⟩
theorem m_sum (m : MW μ w) {kd : Int32} {who t q whom : Nat} (ht : t < 10) (hq : q < 6) (hw : who < 10) (hp : whom < 10) (H : ∀ f, Φ (.inl (some (.int (nI (smm w (fac w who t q whom (kno w whom t)) kd))))) (sRI μ 149 f)) :
    Spec g i_Mo_sumOf 0 [.ref 140, .int kd, .int (nI (6 * t + q)), .int (nI who), .int (nI whom)] μ Φ := by
  have hli := li_le m.2
  have e4 : ∀ (f : Nat → Int32), mI (sRI μ 149 f) 141 (nx 4) = w.1 4 := fun f => by rw [mw_i (MW_149 m f)]; rfl
  have e5 : ∀ (f : Nat → Int32), mI (sRI μ 149 f) 141 (nx 1015) = w.1 1015 := fun f => by rw [mw_i (MW_149 m f)]; rfl
  have ej : ∀ (f : Nat → Int32) j, mI (sRI μ 149 f) 141 j = w.1 j := fun f j => by rw [mw_i (MW_149 m f)]
  have hw1 : w.1 4 = 1 → w.1 1015 = nI (li w) := fun e => by
    obtain ⟨n, n1, n2⟩ := m.2.2.2.1 e
    unfold li; rw [if_pos e, n2, nx_nI (by omega)]
  have hw0 : ¬ w.1 4 = 1 → li w = 0 := fun e => by unfold li; rw [if_neg e]
  have hhol : ∀ (f : Nat → Int32) (Ψ : Out → Mem → Prop) (n : Nat), n < li w → (∀ f', Ψ (.inl (some (.int (b2i (hol w (fac w who t q whom (kno w whom t)) n))))) (sRI μ 149 f')) → Spec g i_Mo_holdsLine 0 [.ref 140, .int (nI n), .int (nI (6 * t + q)), .int (nI who), .int (nI whom)] (sRI μ 149 f) Ψ := fun f Ψ n h1 h2 => m_holds (MW_149 m f) h1 ht hq hw hp fun f' => by rw [sRI_sRI]; exact h2 f'
  generalize fac w who t q whom (kno w whom t) = F at *
  have key := zup (P := fun k => ∀ f, WW g i_Mo_sumOf 0 Φ 0 0 6 [(0, .ref 140), (1, .int kd), (2, .int (nI (6 * t + q))), (3, .int (nI who)), (4, .int (nI whom)), (5, .int (nI (smN w F kd k))), (6, .int (nI k))] [] (sRI μ 149 f)) (li w) ?_ ?_
  · have h0 := key (mI μ 149)
    rw [sRI_self] at h0
    exact spi o_Mo_sumOf rfl (v_Mo_sumOf_0 h0)
  · intro f
    refine v_Mo_sumOf_6 ⟨vin 4 rfl, fun _ => H f, fun h => ⟨vin 1015 rfl, fun _ => H f, fun h2 => absurd ?_ h2⟩⟩
    rw [e4] at h
    rw [e5, hw1 h]; exact nI_le (Nat.le_refl _) (by omega)
  · intro k hk ih f
    obtain ⟨hk12, hkd, ⟨ha, ha99⟩, -⟩ := wf_ln m.2 hk
    have i1 : (1016 : Int32) + 4 * nI k = nI (1016 + 4 * k) := by rw [show (1016 : Int32) = nI 1016 from rfl, show (4 : Int32) = nI 4 from rfl, pk_mul, nI_add]
    have i2 : nI (1016 + 4 * k) + 1 = nI (1016 + 4 * k + 1) := nI_add (1016 + 4 * k) 1
    have el : w.1 (1016 + 4 * k) = ln w k 0 := rfl
    have el1 : w.1 (1016 + 4 * k + 1) = ln w k 1 := rfl
    refine v_Mo_sumOf_6 ⟨vin 4 rfl, fun h => ?_, fun h => ⟨vin 1015 rfl, fun h2 => ?_, fun _ => ?_⟩⟩
    · rw [e4] at h; have := hw0 h; omega
    · rw [e4] at h
      rw [e5, hw1 h] at h2; exact absurd h2 (nI_ge hk (by omega))
    · rw [i1, i2, nx_nI (by omega), nx_nI (by omega), ej, el]
      refine ⟨vp_in_nI (by omega) (by decide), fun h3 => ?_, fun h3 => hhol f _ k hk fun f' => oI ⟨fun h4 => ?_, fun h4 => ⟨vp_in_nI (by omega) (by decide), ?_⟩⟩⟩
      · have := ih f
        rw [show smN w F kd (k + 1) = smN w F kd k by show _ + (if _ then _ else _) = _; rw [if_neg (fun q => h3 q.1)]; rfl, nI_succ] at this
        exact this
      · have := ih f'
        rw [show smN w F kd (k + 1) = smN w F kd k by show _ + (if _ then _ else _) = _; rw [if_neg (fun q => by rw [b2i_0.mp h4] at q; cases q.2)]; rfl, nI_succ] at this
        exact this
      · have := ih f'
        rw [show smN w F kd (k + 1) = smN w F kd k + nx (ln w k 1) by show _ + (if _ then _ else _) = _; rw [if_pos ⟨h3, b2i_n0.mp h4⟩], nI_succ, ← nI_add (smN w F kd k), ← ha] at this
        rw [ej, el1]; exact this
theorem m_hea (m : MW μ w) {who t q whom : Nat} (ht : t < 10) (hq : q < 6) (hw : who < 10) (hp : whom < 10) (H : ∀ f, Φ (.inl (some (.int (b2i (hea w who t q whom (kno w whom t)))))) (sRI μ 149 f)) :
    Spec g i_Mo_isHeard 0 [.ref 140, .int (nI (6 * t + q)), .int (nI who), .int (nI whom)] μ Φ := by
  refine spi o_Mo_isHeard rfl (v_Mo_isHeard_0 (m_of (k := 2) m hp (by decide) (oI ⟨vin 6 rfl, m_sum m ht hq hw hp fun f => oI (m_sum (MW_149 m f) (kd := -1) ht hq hw hp fun f' => oI ?_)⟩)))
  rw [sRI_sRI]
  refine m_apa (MW_149 m f') hw hp (oI ?_)
  rw [show mI μ 141 (nx 6) = w.1 6 by rw [mw_i m]; rfl]
  have H' := H f'
  unfold hea at H'
  refine ⟨fun h => ?_, fun h => ?_⟩
  · rw [b2i_f (by simp only [decide_eq_false_iff_not]; exact Int32.not_le.mpr h)] at H'; exact z01 H'
  · rw [b2i_t (by simp only [decide_eq_true_eq]; exact Int32.not_lt.mp h)] at H'; exact z11 H'
theorem m_tas (m : MW μ w) {who t q whom : Nat} (ht : t < th w) (hq : q < 6) (hw : who < 10) (hp : whom < 10) (H : ∀ f, Φ (.inl (some (.int (nI ((t + smm w (fac w who t q whom (kno w whom t)) 0) % th w))))) (sRI μ 149 f)) :
    Spec g i_Mo_takenAs 0 [.ref 140, .int (nI (6 * t + q)), .int (nI who), .int (nI whom)] μ Φ := by
  have t10 := (wf_th m.2.1).2
  have d1 : nI (6 * t + q) / 6 = nI t := by rw [show (6 : Int32) = nI 6 from rfl, pk_div (by omega) (by decide) (by decide)]; congr 1; omega
  refine spi o_Mo_takenAs rfl (v_Mo_takenAs_0 ⟨by decide, m_sum m (kd := 0) (by omega) hq hw hp fun f => oI (m_th (MW_149 m f) (oI ⟨nI_ne0 (by omega) (by omega), ?_⟩))⟩)
  have hs := smm_le m.2 (fac w who t q whom (kno w whom t)) 0
  rw [d1, nI_add, pk_rem (by omega) (by omega) (by omega)]
  exact H f
theorem m_tk (m : MW μ w) {who t q whom : Nat} (ht : t < th w) (hq : q < 6) (hw : who < 10) (hp : whom < 10) (H : ∀ f, Φ (.inl (some (.int (ov (tk w who t q whom (kno w whom t)))))) (sRI μ 149 f)) :
    Spec g i_Mo_takes 0 [.ref 140, .int (nI (6 * t + q)), .int (nI who), .int (nI whom)] μ Φ := by
  have t10 := (wf_th m.2.1).2
  have hno : ∀ f, (her w who && (her w whom && hea w who t q whom (kno w whom t))) = false → Φ (.inl (some (.int (-1)))) (sRI μ 149 f) := by
    intro f e
    have := H f
    unfold tk at this; rw [if_neg (by rw [e]; decide)] at this; exact this
  have hn0 := hno (mI μ 149)
  rw [sRI_self] at hn0
  refine spi o_Mo_takes rfl (v_Mo_takes_0 (m_her m hw (oI ⟨fun h1 => hn0 (by rw [b2i_0.mp h1]; rfl), fun h1 => m_her m hp (oI ⟨fun h2 => hn0 (by rw [b2i_0.mp h2]; cases her w who <;> rfl), fun h2 => m_hea m (by omega) hq hw hp fun f => oI ⟨fun h3 => hno f (by rw [b2i_0.mp h3]; cases her w who <;> cases her w whom <;> rfl), fun h3 => m_tas (MW_149 m f) ht hq hw hp fun f' => oI ?_⟩⟩)⟩)))
  rw [sRI_sRI]
  have := H f'
  unfold tk at this
  rw [if_pos (by rw [b2i_n0.mp h1, b2i_n0.mp h2, b2i_n0.mp h3]; rfl)] at this
  exact this
/-- who hears a saying (rightly) -/
def hrf (w : WD) (who t q : Nat) (right : Bool) (p : Nat) : Bool := match tk0 w who t q p with
  | none => false
  | some a => !right || decide (a = t)
theorem m_hrs (m : MW μ w) {who t q : Nat} (right : Bool) (ht : t < th w) (hq : q < 6) (hw : who < 10) (H : ∀ f, Φ (.inl (some (.int (msk (pe w) (hrf w who t q right))))) (sRI μ 149 f)) :
    Spec g i_Mo_hearers 0 [.ref 140, .int (nI (6 * t + q)), .int (nI who), .int (b2i right)] μ Φ := by
  have t10 := (wf_th m.2.1).2
  have p10 := (wf_pe m.2.1).2
  have d1 : nI (6 * t + q) / 6 = nI t := by rw [show (6 : Int32) = nI 6 from rfl, pk_div (by omega) (by decide) (by decide)]; congr 1; omega
  have key := zup (P := fun k => ∀ f, WW g i_Mo_hearers 0 Φ 0 0 6 [(0, .ref 140), (1, .int (nI (6 * t + q))), (2, .int (nI who)), (3, .int (b2i right)), (4, .int (msk k (hrf w who t q right))), (5, .int (nI k))] [] (sRI μ 149 f)) (pe w) ?_ ?_
  · have h0 := key (mI μ 149)
    rw [sRI_self] at h0
    exact spi o_Mo_hearers rfl (v_Mo_hearers_0 h0)
  · intro f
    exact v_Mo_hearers_6 (m_pe (MW_149 m f) (oI ⟨fun _ => H f, fun h => absurd (nI_le (Nat.le_refl _) (by omega)) h⟩))
  · intro k hk ih f
    refine v_Mo_hearers_6 (m_pe (MW_149 m f) (oI ⟨fun h => absurd h (nI_ge hk (by omega)), fun _ => ?_⟩))
    rw [d1]
    refine ⟨fun h => m_tk (MW_149 m f) ht hq hw (by omega) fun f' => oI ?_, fun h => ⟨fun _ => ?_, fun h => absurd (by decide) h⟩⟩
    · rw [sRI_sRI]
      have hne : k ≠ who := fun q => h (by rw [q])
      have hi := ih f'
      have e0 : tk0 w who t q k = tk w who t q k (kno w k t) := by unfold tk0; rw [if_neg hne]
      have hl := fun a (ha : tk w who t q k (kno w k t) = some a) => tk_lt (show 0 < th w by omega) ha
      cases hz : tk w who t q k (kno w k t) with
      | none =>
        have ef : hrf w who t q right k = false := by unfold hrf; rw [e0, hz]
        rw [msk_f ef, nI_succ] at hi
        exact ⟨fun _ => hi, fun h => absurd (by decide) h⟩
      | some a =>
        have ha := hl a hz
        have ef : hrf w who t q right k = (!right || decide (a = t)) := by unfold hrf; rw [e0, hz]
        refine ⟨fun h => absurd h (nI_pos (by omega)), fun _ => ⟨fun h2 => ?_, fun h2 => ⟨by decide, fun h3 => ?_, fun h3 => ?_⟩⟩⟩
        · rw [msk_t (by rw [ef, b2i_0.mp h2]; rfl), nI_succ] at hi; exact hi
        · have : ¬ a = t := fun q => h3 (by rw [q]; rfl)
          rw [msk_f (by rw [ef, b2i_n0.mp h2]; simp [this]), nI_succ] at hi; exact hi
        · have : a = t := nI_inj (by omega) (by omega) h3
          rw [msk_t (by rw [ef]; simp [this]), nI_succ] at hi; exact hi
    · have e : k = who := nI_inj (by omega) (by omega) h
      have hi := ih f
      rw [msk_f (by unfold hrf tk0; rw [if_pos e]), nI_succ] at hi; exact hi
end MB
