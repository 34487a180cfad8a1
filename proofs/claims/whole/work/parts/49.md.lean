/-! contracts of the reference: sayings, terms -/
def zW (k j : Nat) : Bool := Nat.beq k 141 || ((Nat.beq k 140 && Nat.beq j 6) || zM k j)
theorem zM_W {μ μ' : Mem} (e : Lz zM μ' = Lz zM μ) : Lz zW μ' = Lz zW μ := Lz_up (fun k j h => by unfold zW; rw [h]; simp) e
theorem zW_141 {μ : Mem} {f : Nat → Int32} : Lz zW (sRI μ 141 f) = Lz zW μ := Lz_RI fun _ => rfl
section MD
variable {g : Gl} {Φ : Out → Mem → Prop} {μ : Mem} {w : WD}
theorem dW_o {j : Nat} (h : j ≠ 8) : (dW w).1 j = w.1 j := upd_n h
theorem dW_8 : (dW w).1 8 = nsd (w.1 8) := by
  show upd w.1 8 (nsd (w.1 8)) 8 = _
  generalize nsd (w.1 8) = y
  exact upd_s
theorem MW_141 {v : WD} (h2 : mL μ 140 6 = v.2) (hv : WF v) : MW (sRI μ 141 v.1) v := by
  refine ⟨Prod.ext ?_ h2, hv⟩
  show mI (sRI μ 141 v.1) 141 = v.1
  rw [rI_RI, if_pos rfl]
theorem MW_m (m : MW μ w) {μ' : Mem} (e : Lz zM μ' = Lz zM μ) : MW μ' w := m.lv (zM_scr e)
theorem m_draw (m : MW μ w) {n : Nat} (h0 : 0 < n) (hn : n < 2 ^ 31) (H : Φ (.inl (some (.int (nI (drw (nsd (w.1 8)) % n))))) (sRI μ 141 (dW w).1)) : Spec g i_Mo_draw 0 [.ref 140, .int (nI n)] μ Φ := by
  refine spi o_Mo_draw rfl (v_Mo_draw_0 ⟨vin 8 rfl, vin 8 rfl, vin 8 rfl, nI_ne0 h0 hn, ?_⟩)
  have e : mI μ 141 (nx 8) = w.1 8 := by rw [mw_i m]; rfl
  rw [e]
  show Φ (.inl (some (.int (((nsd (w.1 8) >>> ((16 : Int32) &&& 31)) &&& 32767) - ((nsd (w.1 8) >>> ((16 : Int32) &&& 31)) &&& 32767) / nI n * nI n)))) (sI μ 141 (nx 8) (nsd (w.1 8)))
  have hl := drw_lt (nsd (w.1 8))
  rw [drw_nI, pk_rem (by omega) h0 hn, sI_RI, mw_i m]
  exact H
def shf (w : WD) (m j : Nat) : Int32 := if 115 + m < j ∧ j < 1015 then w.1 (j - 15) else w.1 j
theorem m_tells {v : Nat → Int32} (hv : mI μ 141 = w.1) (hl : w.1 7 = nI (lg w)) (h60 : lg w < 60) {who s : Nat} (st : Bool) (H : Φ (.inl none) (sRI μ 141 (tlW w who s st).1)) : Spec g i_Mo_tells 0 [.ref 140, .int (nI who), .int (nI s), .int (b2i st)] μ Φ := by
  have fill : ∀ f : Nat → Int32, (∀ j, ¬ (120 ≤ j ∧ j < 130) → j ≠ 7 → f j = (tlW w who s st).1 j) → f 7 = w.1 7 → WW g i_Mo_tells 0 Φ 0 0 97 [(0, .ref 140), (4, .int 0)] [] (sRI μ 141 f) := by
    intro f hf hf7
    refine zup (P := fun k => ∀ f : Nat → Int32, (∀ j, ¬ (120 + k ≤ j ∧ j < 130) → j ≠ 7 → f j = (tlW w who s st).1 j) → f 7 = w.1 7 → WW g i_Mo_tells 0 Φ 0 0 97 [(0, .ref 140), (4, .int (nI k))] [] (sRI μ 141 f)) 10 ?_ ?_ f hf hf7
    · intro f hf hf7
      refine v_Mo_tells_97 ⟨fun _ => ⟨vin 7 rfl, vin 7 rfl, ?_⟩, fun h => absurd (nI_le (a := 10) (b := 10) (by decide) (by decide)) h⟩
      rw [rI_RI, if_pos rfl, sI_sRI]
      have : upd f (nx 7) (mmin 60 (f (nx 7) + 1)) = (tlW w who s st).1 := by
        funext j
        show upd f 7 (mmin 60 (f 7 + 1)) j = _
        by_cases e : j = 7
        · subst e
          rw [upd_s, hf7, hl, ← nI_succ, show (60 : Int32) = nI 60 from rfl, mmin_nI (by omega) (by omega), Nat.min_eq_right (by omega)]; rfl
        · rw [upd_n e]; exact hf j (by omega) e
      rw [this]; exact H
    · intro k hk ih f hf hf7
      refine v_Mo_tells_97 ⟨fun h => absurd h (nI_ge (b := 10) hk (by decide)), fun _ => ?_⟩
      rw [show (120 : Int32) = nI 120 from rfl, nI_add, sI_sRI, nx_nI (by omega), ← nI_succ]
      refine ⟨vp_in_nI (by omega) (by decide), ih _ (fun j hj h7 => ?_) ?_⟩
      · by_cases e : j = 120 + k
        · subst e; rw [upd_s]
          show _ = (if _ then _ else _)
          rw [if_neg (by omega), if_neg (by omega), if_neg (by omega), if_neg (by omega), if_neg (by omega), if_neg (by omega), if_neg (by omega), if_pos (by omega)]
        · rw [upd_n e]; exact hf j (by omega) h7
      · rw [upd_n (by omega)]; exact hf7
  refine spi o_Mo_tells rfl (v_Mo_tells_0 ?_)
  have key := zup (P := fun d => ∀ f : Nat → Int32, (∀ j, f j = shf w (899 - d) j) → WW g i_Mo_tells 0 Φ 0 0 5 [(0, .ref 140), (1, .int (nI who)), (2, .int (nI s)), (3, .int (b2i st)), (4, .int (nI (899 - d)))] [] (sRI μ 141 f)) 885 ?_ ?_
  · have h0 := key (mI μ 141) fun j => by rw [hv]; unfold shf; rw [if_neg (by omega)]
    rw [sRI_self] at h0; exact h0
  · intro f hf
    have e5 : mI (sRI μ 141 f) 141 (nx 5) = w.1 5 := by rw [rI_RI, if_pos rfl]; exact hf 5
    refine v_Mo_tells_5 ⟨fun _ => ⟨vin 5 rfl, vin 115 rfl, vin 116 rfl, vin 117 rfl, vin 118 rfl, fun h => ⟨vin 119 rfl, ?_⟩, fun h => ⟨vin 119 rfl, ?_⟩⟩, fun h => absurd (nI_lt (a := 14) (b := 15) (by decide) (by decide)) h⟩
    all_goals
      rw [e5, sI_sRI, sI_sRI, sI_sRI, sI_sRI, sI_sRI]
      refine fill _ (fun j hj h7 => ?_) ?_
    · show upd (upd (upd (upd (upd f 115 (w.1 5)) 116 (nI who)) 117 (nI s)) 118 0) 119 0 j = _
      have hst : b2i st = 0 := h
      show _ = (if j = 7 then _ else if 130 ≤ j ∧ j < 1015 then w.1 (j - 15) else if j = 115 then w.1 5 else if j = 116 then nI who else if j = 117 then nI s else if j = 118 then 0 else if j = 119 then b2i st else if 120 ≤ j ∧ j < 130 then -1 else w.1 j)
      rw [if_neg h7, hst]
      by_cases c1 : 130 ≤ j ∧ j < 1015
      · rw [if_pos c1, upd_n (by omega), upd_n (by omega), upd_n (by omega), upd_n (by omega), upd_n (by omega), hf]
        show shf w 14 j = _
        unfold shf; rw [if_pos (by omega)]
      · rw [if_neg c1, if_neg hj]
        by_cases d5 : j = 119
        · subst d5; rw [upd_s]; rfl
        · rw [upd_n d5]
          by_cases d4 : j = 118
          · subst d4; rw [upd_s]; rfl
          · rw [upd_n d4]
            by_cases d3 : j = 117
            · subst d3; rw [upd_s]; rfl
            · rw [upd_n d3]
              by_cases d2 : j = 116
              · subst d2; rw [upd_s]; rfl
              · rw [upd_n d2]
                by_cases d1 : j = 115
                · subst d1; rw [upd_s]; rfl
                · rw [upd_n d1, if_neg d1, if_neg d2, if_neg d3, if_neg d4, if_neg d5, hf]
                  show shf w 14 j = _
                  unfold shf; rw [if_neg (by omega)]
    · exact hf 7
    · show upd (upd (upd (upd (upd f 115 (w.1 5)) 116 (nI who)) 117 (nI s)) 118 0) 119 1 j = _
      have hst : b2i st = 1 := by rw [b2i_n0] at h; rw [h]; rfl
      show _ = (if j = 7 then _ else if 130 ≤ j ∧ j < 1015 then w.1 (j - 15) else if j = 115 then w.1 5 else if j = 116 then nI who else if j = 117 then nI s else if j = 118 then 0 else if j = 119 then b2i st else if 120 ≤ j ∧ j < 130 then -1 else w.1 j)
      rw [if_neg h7, hst]
      by_cases c1 : 130 ≤ j ∧ j < 1015
      · rw [if_pos c1, upd_n (by omega), upd_n (by omega), upd_n (by omega), upd_n (by omega), upd_n (by omega), hf]
        show shf w 14 j = _
        unfold shf; rw [if_pos (by omega)]
      · rw [if_neg c1, if_neg hj]
        by_cases d5 : j = 119
        · subst d5; rw [upd_s]; rfl
        · rw [upd_n d5]
          by_cases d4 : j = 118
          · subst d4; rw [upd_s]; rfl
          · rw [upd_n d4]
            by_cases d3 : j = 117
            · subst d3; rw [upd_s]; rfl
            · rw [upd_n d3]
              by_cases d2 : j = 116
              · subst d2; rw [upd_s]; rfl
              · rw [upd_n d2]
                by_cases d1 : j = 115
                · subst d1; rw [upd_s]; rfl
                · rw [upd_n d1, if_neg d1, if_neg d2, if_neg d3, if_neg d4, if_neg d5, hf]
                  show shf w 14 j = _
                  unfold shf; rw [if_neg (by omega)]
    · exact hf 7
  · intro d hd ih f hf
    obtain ⟨m, hm⟩ : ∃ m, 899 - d = m + 15 := ⟨899 - d - 15, by omega⟩
    have hm2 : 899 - (d + 1) = m + 14 := by omega
    rw [hm2] at ih
    rw [hm] at hf ⊢
    have i1 : (115 : Int32) + nI (m + 15) = nI (115 + (m + 15)) := nI_add 115 (m + 15)
    have i2 : nI (115 + (m + 15)) - 15 = nI (m + 115) := by rw [show (15 : Int32) = nI 15 from rfl, pk_sub (by omega)]; congr 1; omega
    refine v_Mo_tells_5 ⟨fun h => absurd h (nI_nlt (a := m + 15) (b := 15) (by omega) (by omega)), fun _ => ?_⟩
    rw [i1, i2, nx_nI (by omega), nx_nI (by omega), show nI (m + 15) + -1 = nI (m + 14) from pk_m1 (m + 14), rI_RI, if_pos rfl, sI_sRI]
    refine ⟨vp_in_nI (by omega) (by decide), vp_in_nI (by omega) (by decide), ih _ fun j => ?_⟩
    by_cases e : j = 115 + (m + 15)
    · subst e; rw [upd_s, hf]; unfold shf; rw [if_neg (by omega), if_pos (by omega), show 115 + (m + 15) - 15 = m + 115 by omega]
    · rw [upd_n e, hf]; unfold shf
      by_cases c : 115 + (m + 15) < j ∧ j < 1015
      · rw [if_pos c, if_pos (by omega)]
      · rw [if_neg c, if_neg (by omega)]
theorem m_lea (m : MW μ w) {p a : Nat} (hp : p < 10) (ha : a < 32) (H : Φ (.inl none) (sRI μ 141 (lrW w p a).1)) : Spec g i_Mo_learns 0 [.ref 140, .int (nI p), .int (nI a)] μ Φ := by
  refine spi o_Mo_learns rfl (v_Mo_learns_0 (m_kn m hp ha (oI ⟨fun h => m_at (k := 4) (oI ?_), fun h => ?_⟩)))
  · rw [show (120 : Int32) + nI p = nI (120 + p) from nI_add 120 p, nx_nI (by omega), nx_nI (by omega)]
    refine ⟨vp_in_nI (by omega) (by decide), vp_in_nI (by omega) (by decide), vin 118 rfl, vin 118 rfl, vp_in_nI (by omega) (by decide), ?_⟩
    rw [sI_RI μ, rI_RI, if_pos rfl, sI_sRI, sI_sRI, mw_i m]
    have : upd (upd (upd w.1 (19 + 6 * p + 4) (w.1 (19 + 6 * p + 4) ||| (1 : Int32) <<< (nI a &&& 31))) (nx 118) (upd w.1 (19 + 6 * p + 4) (w.1 (19 + 6 * p + 4) ||| (1 : Int32) <<< (nI a &&& 31)) (nx 118) ||| (1 : Int32) <<< (nI p &&& 31))) (120 + p) (nI a) = (lrW w p a).1 := by
      unfold lrW; rw [if_neg (by rw [b2i_0.mp h]; decide)]
      show upd (upd (upd w.1 (19 + 6 * p + 4) _) 118 (upd w.1 (19 + 6 * p + 4) _ 118 ||| _)) (120 + p) (nI a) = _
      rw [upd_n (show (118 : Nat) ≠ 19 + 6 * p + 4 by omega), show 19 + 6 * p + 4 = 23 + 6 * p by omega]
      show _ = upd (upd (upd w.1 (23 + 6 * p) (pf w p 4 ||| _)) 118 _) (120 + p) (nI a)
      rw [pf_4]
    rw [this]; exact H
  · have : (lrW w p a).1 = mI μ 141 := by unfold lrW; rw [if_pos (b2i_n0.mp h), mw_i m]
    rw [this, sRI_self] at H; exact H
theorem m_olg (m : MW μ w) {r c : Nat} (hr : r < 60) (hc : c < 15) (H : Φ (.inl (some (.int (lw w r c)))) μ) : Spec g i_Mo_ofLog 0 [.ref 140, .int (nI r), .int (nI c)] μ Φ := by
  refine spi o_Mo_ofLog rfl (v_Mo_ofLog_0 ?_)
  rw [show (115 : Int32) = nI 115 from rfl, show (15 : Int32) = nI 15 from rfl, pk_mul, nI_add, nI_add]
  refine ⟨vp_in_nI (by omega) (by decide), ?_⟩
  rw [mw_i m, nx_nI (by omega)]; exact H
theorem sayW_ok (h : WF w) {who t q : Nat} (hw : who < pe w) (ht : t < th w) (hq : q < wo w t) (hn : sai w t q = false) : WF (dW (stW w t q)) ∧ WF (tlW (dW (stW w t q)) who (6 * t + q) (stm (dW (stW w t q)) who)) ∧ WF (sayW w who t q) ∧ lg w < 60 := by
  have t10 := (wf_th h.1).2
  have w6 := (wf_wo h.1 (show t < 10 by omega)).2.1
  have h1 := WF_d (WF_st h (show t < 10 by omega) hq)
  have hc := ct_st (w := w) (t := t) (q := q) (by omega) hn
  have hl : lg w ≤ ct (bl w.2) 60 := h.1.2.2.2.2.2.2.2.2.2.2.1
  have h60 := ct_le (bl (stW w t q).2) 60
  have elg : lg (dW (stW w t q)) = lg w := congrArg nx (dW_o (by decide))
  have epe : pe (dW (stW w t q)) = pe w := congrArg nx (dW_o (by decide))
  have eth : th (dW (stW w t q)) = th w := congrArg nx (dW_o (by decide))
  have := say1_WF h1 (who := who) (t := t) (q := q) (by rw [epe]; exact hw) (by rw [eth]; exact ht) (by omega) (by rw [elg]; show _ ≤ ct (bl (stW w t q).2) 60; omega)
  exact ⟨h1, this.1, this.2, by omega⟩
theorem m_says (m : MW μ w) {who t q : Nat} (hw : who < pe w) (ht : t < th w) (hq : q < wo w t) (hn : sai w t q = false) (H : ∀ μ', Lz zW μ' = Lz zW μ → MW μ' (sayW w who t q) → Φ (.inl (some (.int (lw (sayW w who t q) 0 3)))) μ') :
    Spec g i_Mo_says 0 [.ref 140, .int (nI who), .int (nI (6 * t + q))] μ Φ := by
  have t10 := (wf_th m.2.1).2
  have p10 := (wf_pe m.2.1).2
  have w6 := (wf_wo m.2.1 (show t < 10 by omega)).2.1
  obtain ⟨h1, h2, h3, h60⟩ := sayW_ok m.2 hw ht hq hn
  have ms : MW (sL μ 140 6 (w.2 ||| ((1 : Int64) <<< ((nI (6 * t + q)).toInt64 &&& 63)))) (stW w t q) := by
    refine ⟨Prod.ext (show mI μ 141 = w.1 from mw_i m) ?_, WF_st m.2 (by omega) hq⟩
    show mL (sL μ 140 6 _) 140 6 = _
    rw [rL_L, if_pos rfl, updL_s]; rfl
  refine spi o_Mo_says rfl (v_Mo_says_0 ?_)
  rw [mw_l m]
  refine m_draw ms (n := 100) (by decide) (by decide) (oI ?_)
  have e0 : Lz zW (sRI (sL μ 140 6 (w.2 ||| ((1 : Int64) <<< ((nI (6 * t + q)).toInt64 &&& 63)))) 141 (dW (stW w t q)).1) = Lz zW μ := zW_141.trans (Lz_L rfl)
  have m1 : MW (sRI (sL μ 140 6 (w.2 ||| ((1 : Int64) <<< ((nI (6 * t + q)).toInt64 &&& 63)))) 141 (dW (stW w t q)).1) (dW (stW w t q)) := MW_141 (v := dW (stW w t q)) ((mw_l ms).trans rfl) h1
  have esd : (dW (stW w t q)).1 8 = nsd ((stW w t q).1 8) := dW_8
  have elg : lg (dW (stW w t q)) = lg w := congrArg nx (dW_o (by decide))
  have epe : pe (dW (stW w t q)) = pe w := congrArg nx (dW_o (by decide))
  have eth : th (dW (stW w t q)) = th w := congrArg nx (dW_o (by decide))
  rw [← esd]
  have hsay : sayW w who t q = say1 (dW (stW w t q)) who t q := rfl
  rw [hsay] at H h3
  generalize dW (stW w t q) = v at *
  generalize sRI (sL μ 140 6 (w.2 ||| ((1 : Int64) <<< ((nI (6 * t + q)).toInt64 &&& 63)))) 141 v.1 = μ1 at *
  refine m_of (k := 3) m1 (by omega) (by decide) (oI ?_)
  -- what each takes
  have take : ∀ b : Bool, b = stm v who → WW g i_Mo_says 0 Φ 0 0 36 [(0, .ref 140), (1, .int (nI who)), (2, .int (nI (6 * t + q))), (3, .int (b2i b)), (4, .int 0)] [] μ1 := by
    intro b hb
    refine zup (P := fun k => ∀ μ', Lz zM μ' = Lz zM μ1 → (∀ p, p < k → mI μ' 150 p = ov (tkn v who t q p)) → WW g i_Mo_says 0 Φ 0 0 36 [(0, .ref 140), (1, .int (nI who)), (2, .int (nI (6 * t + q))), (3, .int (b2i b)), (4, .int (nI k))] [] μ') (pe w) ?_ ?_ μ1 rfl fun p h => absurd h (Nat.not_lt_zero _)
    · intro μ' e ht'
      have m' := MW_m m1 e
      refine v_Mo_says_36 (m_pe m' (oI ⟨fun _ => ?_, fun h => absurd (by rw [epe]; exact nI_le (Nat.le_refl _) (by omega)) h⟩))
      rw [hb]
      refine m_tells (v := v.1) (mw_i m') (wf_lg h1.1).1 (by omega) _ (oV ?_)
      have hL2 : (tlW v who (6 * t + q) (stm v who)).2 = v.2 := rfl
      have key := zup (P := fun k => WW g i_Mo_says 0 Φ 0 0 90 [(0, .ref 140), (4, .int (nI k))] [] (sRI μ' 141 (lrn (tlW v who (6 * t + q) (stm v who)) (tkn v who t q) k).1)) (pe w) ?_ ?_
      · exact key
      · have mk : MW (sRI μ' 141 (say1 v who t q).1) (say1 v who t q) := MW_141 ((mw_l m').trans (lrn_2 (w := tlW v who (6 * t + q) (stm v who))).symm) h3
        have em : lrn (tlW v who (6 * t + q) (stm v who)) (tkn v who t q) (pe w) = say1 v who t q := by unfold say1; rw [epe]
        rw [em]
        have eps : pe (say1 v who t q) = pe w := by
          have : pe (say1 v who t q) = pe (tlW v who (6 * t + q) (stm v who)) := congrArg nx (lrn_o (by omega) (by omega) (by omega))
          rw [this, ← epe]; exact congrArg nx (tlW_lo (by omega) (by omega))
        refine v_Mo_says_90 (m_pe mk (oI ⟨fun _ => m_olg (r := 0) (c := 3) mk (by decide) (by decide) (oI ?_), fun h => absurd (by rw [eps]; exact nI_le (Nat.le_refl _) (by omega)) h⟩))
        exact H _ (zW_141.trans ((zM_W e).trans e0)) mk
      · intro k hk ih
        obtain ⟨f1, f2, f3, f4⟩ := lrn_WF (o := tkn v who t q) h2 (by rw [tlW_lg h1.1]; omega) rfl (fun p a ha => by
          have : th (tlW v who (6 * t + q) (stm v who)) = th v := congrArg nx (tlW_lo (by omega) (by omega))
          rw [this]; exact tkn_lt (by omega) ha) (k := k) (by
          have : pe (tlW v who (6 * t + q) (stm v who)) = pe v := congrArg nx (tlW_lo (by omega) (by omega))
          rw [this]; omega)
        have ept : pe (tlW v who (6 * t + q) (stm v who)) = pe v := congrArg nx (tlW_lo (by omega) (by omega))
        have mk : MW (sRI μ' 141 (lrn (tlW v who (6 * t + q) (stm v who)) (tkn v who t q) k).1) (lrn (tlW v who (6 * t + q) (stm v who)) (tkn v who t q) k) := MW_141 ((mw_l m').trans (lrn_2 (w := tlW v who (6 * t + q) (stm v who))).symm) f1
        have e150 : mI (sRI μ' 141 (lrn (tlW v who (6 * t + q) (stm v who)) (tkn v who t q) k).1) 150 (nx (nI k)) = ov (tkn v who t q k) := by
          rw [nx_nI (by omega), rI_RI, if_neg (by decide)]; exact ht' k hk
        have hd : lrn (tlW v who (6 * t + q) (stm v who)) (tkn v who t q) (k + 1) = match tkn v who t q k with | none => lrn (tlW v who (6 * t + q) (stm v who)) (tkn v who t q) k | some a => lrW (lrn (tlW v who (6 * t + q) (stm v who)) (tkn v who t q) k) k a := rfl
        refine v_Mo_says_90 (m_pe mk (oI ⟨fun h => absurd h (by rw [f3, ept, epe]; exact nI_ge hk (by omega)), fun _ => ⟨vp_in_nI (by omega) (by decide), ?_⟩⟩))
        rw [e150]
        cases hz : tkn v who t q k with
        | none =>
          rw [hd, hz, nI_succ] at ih
          exact ⟨fun _ => ih, fun h => absurd (by decide) h⟩
        | some a =>
          have ha : a < th v := tkn_lt (by omega) hz
          rw [hd, hz, nI_succ] at ih
          refine ⟨fun h => absurd h (nI_pos (by omega)), fun _ => ⟨vp_in_nI (by omega) (by decide), m_lea mk (by omega) (by omega) (oV ?_)⟩⟩
          rw [sRI_sRI]; exact ih
    · intro k hk ih μ' e ht'
      have m' := MW_m m1 e
      have vk := vp_in_nI (N := 10) (show k < 10 by omega) (by decide)
      have set : ∀ (μ2 : Mem) (x : Int32), Lz zM μ2 = Lz zM μ1 → (∀ p, p < k → mI μ2 150 p = ov (tkn v who t q p)) → x = ov (tkn v who t q k) → WW g i_Mo_says 0 Φ 0 0 36 [(0, .ref 140), (1, .int (nI who)), (2, .int (nI (6 * t + q))), (3, .int (b2i b)), (4, .int (nI k + 1))] [] (sI μ2 150 (nx (nI k)) x) := by
        intro μ2 x e2 h2' hx
        rw [← nI_succ, nx_nI (by omega)]
        refine ih _ ((Lz_I rfl).trans e2) fun p hp => ?_
        by_cases q : p = k
        · subst q; rw [rI_I, if_pos rfl, upd_s, hx]
        · rw [rI_I, if_pos rfl, upd_n q]; exact h2' p (by omega)
      refine v_Mo_says_36 (m_pe m' (oI ⟨fun h => absurd h (by rw [epe]; exact nI_ge hk (by omega)), fun _ => ⟨fun h => ⟨vk, set _ _ e ht' ?_⟩, fun h => ⟨fun h4 => m_tk m' (by omega) (by omega) (by omega) (by omega) fun f => oI ⟨vk, set _ _ (zM_149.trans e) ?_ ?_⟩, fun h4 => ⟨vk, set _ _ e ht' ?_⟩⟩⟩⟩))
      · rw [b2i_n0, hb] at h
        unfold tkn; rw [if_pos h]; rfl
      · intro p hp
        rw [rI_RI, if_neg (by decide)]; exact ht' p hp
      · rw [b2i_0, hb] at h
        have : ¬ k = who := fun q => h4 (by rw [q])
        unfold tkn tk0; rw [if_neg (by rw [h]; decide), if_neg this]
      · rw [b2i_0, hb] at h
        have : k = who := nI_inj (by omega) (by omega) h4
        unfold tkn tk0; rw [if_neg (by rw [h]; decide), if_pos this]; rfl
  refine ⟨fun h => take false ?_, fun h => take true ?_⟩
  · symm; unfold stm; simp only [decide_eq_false_iff_not]; exact Int32.not_lt.mpr h
  · symm; unfold stm; simp only [decide_eq_true_eq]; exact Int32.not_le.mp h
end MD
