/-! the reference's last -/
/-- the world with these minds -/
def kW (w : WD) (M : MD) : WD := (fun j => if 19 ≤ j ∧ j < 79 ∧ (j - 19) % 6 = 4 then M ((j - 19) / 6) else w.1 j, w.2)
section MF
variable {g : Gl} {Φ : Out → Mem → Prop} {μ : Mem} {w : WD} {M : MD}
theorem kW_o {j : Nat} (h : ¬ (19 ≤ j ∧ j < 79 ∧ (j - 19) % 6 = 4)) : (kW w M).1 j = w.1 j := if_neg h
theorem kW_4 {p : Nat} (hp : p < 10) : pf (kW w M) p 4 = M p := by
  show (if _ then _ else _) = _
  rw [if_pos (by omega)]; congr 1; omega
theorem kW_pf {p k : Nat} (hk : k < 6) (h4 : k ≠ 4) : pf (kW w M) p k = pf w p k := if_neg (by omega)
theorem kW_ag : agS w (kW w M) := fun j h5 h8 h => if_neg (by omega)
theorem kW_her {p : Nat} : her (kW w M) p = her w p := by unfold her; rw [kW_pf (by decide) (by decide)]
theorem kW_kno {p t : Nat} (hp : p < 10) : kno (kW w M) p t = bt (M p) t := by unfold kno; rw [kW_4 hp]
theorem kW_sai {t q : Nat} : sai (kW w M) t q = sai w t q := rfl
theorem kW_hol {F : Int32 → Int32} {n : Nat} : hol (kW w M) F n = hol w F n := by
  unfold hol
  rw [agS_cod kW_ag]
  unfold len lst
  rw [agS_ln kW_ag, agS_ln kW_ag]
theorem kW_smN {F : Int32 → Int32} {kd : Int32} (n : Nat) : smN (kW w M) F kd n = smN w F kd n := by
  induction n with
  | zero => rfl
  | succ n ih => unfold smN; rw [ih, kW_hol, agS_ln kW_ag, agS_ln kW_ag]
theorem kW_smm {F : Int32 → Int32} {kd : Int32} : smm (kW w M) F kd = smm w F kd := by unfold smm; rw [agS_li kW_ag, kW_smN]
theorem kW_apa {p q : Nat} : apa (kW w M) p q = apa w p q := by unfold apa; rw [kW_pf (by decide) (by decide), kW_pf (by decide) (by decide), kW_pf (by decide) (by decide), kW_pf (by decide) (by decide)]
theorem kW_fac {who t q whom : Nat} {k : Bool} : fac (kW w M) who t q whom k = fac w who t q whom k := by
  funext c; unfold fac
  rw [kW_apa, kW_pf (by decide) (by decide), kW_o (j := 5) (by omega)]
theorem kW_tk {who t q p : Nat} {k : Bool} : tk (kW w M) who t q p k = tk w who t q p k := by
  unfold tk hea
  rw [kW_her, kW_her, kW_fac, kW_smm, kW_smm, kW_smm, kW_apa, kW_pf (by decide) (by decide), kW_o (j := 6) (by omega), agS_th kW_ag]
theorem kW_KN : kW w (KN w) = w := by
  refine Prod.ext ?_ rfl
  funext j
  by_cases h : 19 ≤ j ∧ j < 79 ∧ (j - 19) % 6 = 4
  · show (if _ then _ else _) = _
    rw [if_pos h]
    show (if (j - 19) / 6 < 10 then w.1 (19 + 6 * ((j - 19) / 6) + 4) else 0) = _
    rw [if_pos (by omega)]; exact congrArg w.1 (by omega)
  · exact if_neg h
/-- no mind has what there is not -/
def hiM (w : WD) (M : MD) : Prop := ∀ p, p < 10 → ∀ i, th w ≤ i → i < 32 → bt (M p) i = false
theorem kW_WF (h : WF w) (hM : hiM w M) : WF (kW w M) := by
  refine WF_ag kW_ag rfl (fun r hr => ?_) h
  obtain ⟨k1, k2, k3, k4, k5, k6, k7⟩ := h.1.2.2.2.2.2.2.2.1 r hr
  unfold WFp
  rw [agS_th kW_ag, agS_pe kW_ag, kW_pf (k := 0) (by decide) (by decide), kW_pf (k := 1) (by decide) (by decide), kW_pf (k := 2) (by decide) (by decide), kW_pf (k := 3) (by decide) (by decide), kW_pf (k := 5) (by decide) (by decide), kW_4 hr]
  exact ⟨k1, k2, k3, k4, hM r hr, k6, k7⟩
theorem WF_hi (h : WF (kW w M)) : hiM w M := by
  intro p hp i h1 h2
  have := (h.1.2.2.2.2.2.2.2.1 p hp).2.2.2.2.1 i (by rw [agS_th kW_ag]; exact h1) h2
  rw [kW_4 hp] at this; exact this
theorem tl1_hi (h0 : 0 < th w) (t10 : th w ≤ 10) {who t q n : Nat} (hM : hiM w M) : hiM w (tl1 w who t q M n) := by
  intro p hp i h1 h2
  unfold tl1
  split
  · cases hk : tkM w who t q M p with
    | none => exact hM p hp i h1 h2
    | some a =>
      have := tkM_lt h0 hk
      show bt (if _ then _ else _) i = false
      split
      · exact hM p hp i h1 h2
      · rw [b_or, hM p hp i h1 h2, b_1s (by omega) h2]
        simp; omega
  · exact hM p hp i h1 h2
theorem tl1_1 {who t q n : Nat} : tl1 w who t q M (n + 1) = fun p => if p = n then (match tkM w who t q M n with | none => M n | some a => if bt (M n) a then M n else M n ||| ((1 : Int32) <<< (nI a &&& 31))) else tl1 w who t q M n p := by
  funext p
  by_cases q1 : p = n
  · subst q1; rw [if_pos rfl, tl1_in (by omega)]
    cases tkM w who t q M p <;> rfl
  · rw [if_neg q1]
    by_cases q2 : p < n
    · rw [tl1_in q2, tl1_in (by omega)]
    · rw [tl1_out q2, tl1_out (by omega)]
theorem m_sA (hw0 : WF w) (m : MW μ (kW w M)) {who t q : Nat} (hw : who < pe w) (ht : t < th w) (hq : q < 6) (H : ∀ μ', Lz zW μ' = Lz zW μ → MW μ' (kW w (tl1 w who t q M (pe w))) → Φ (.inl (some (.int (b2i (anyb (nwM w who t q M) (pe w)))))) μ') :
    Spec g i_Mo_saysAll 0 [.ref 140, .int (nI who), .int (nI (6 * t + q))] μ Φ := by
  have t10 := (wf_th hw0.1).2
  have p10 := (wf_pe hw0.1).2
  have epe : pe (kW w M) = pe w := agS_pe kW_ag
  have hM0 := WF_hi m.2
  refine spi o_Mo_saysAll rfl (v_Mo_saysAll_0 ?_)
  refine zup (P := fun k => ∀ μ', Lz zM μ' = Lz zM μ → (∀ p, p < k → mI μ' 150 p = ov (tkM w who t q M p)) → WW g i_Mo_saysAll 0 Φ 0 0 5 [(0, .ref 140), (1, .int (nI who)), (2, .int (nI (6 * t + q))), (3, .int 0), (4, .int (nI k))] [] μ') (pe w) ?_ ?_ μ rfl fun p h => absurd h (Nat.not_lt_zero _)
  · intro μ' e h150
    have m' := MW_m m e
    refine v_Mo_saysAll_5 (m_pe m' (oI ⟨fun _ => ?_, fun h => absurd (by rw [epe]; exact nI_le (Nat.le_refl _) (by omega)) h⟩))
    refine zup (P := fun k => ∀ μ2, Lz zW μ2 = Lz zW μ → mI μ2 150 = mI μ' 150 → MW μ2 (kW w (tl1 w who t q M k)) → WW g i_Mo_saysAll 0 Φ 0 0 48 [(0, .ref 140), (3, .int (b2i (anyb (nwM w who t q M) k))), (4, .int (nI k))] [] μ2) (pe w) ?_ ?_ μ' (zM_W e) rfl (by
      have : tl1 w who t q M 0 = M := by funext p; exact tl1_out (Nat.not_lt_zero _)
      rw [this]; exact m')
    · intro μ2 e2 _ m2
      refine v_Mo_saysAll_48 (m_pe m2 (oI ⟨fun _ => ⟨b2i_or _, H _ e2 m2⟩, fun h => absurd (by rw [agS_pe kW_ag]; exact nI_le (Nat.le_refl _) (by omega)) h⟩))
    · intro k hk ih μ2 e2 e150 m2
      have hd : anyb (nwM w who t q M) (k + 1) = (anyb (nwM w who t q M) k || nwM w who t q M k) := rfl
      have hek : tl1 w who t q M k k = M k := tl1_out (Nat.lt_irrefl k)
      have er : mI μ2 150 (nx (nI k)) = ov (tkM w who t q M k) := by rw [nx_nI (by omega), e150]; exact h150 k hk
      have vk := vp_in_nI (N := 10) (show k < 10 by omega) (by decide)
      rw [hd, tl1_1] at ih
      have same : (∀ a, tkM w who t q M k = some a → bt (M k) a = true) → WW g i_Mo_saysAll 0 Φ 0 0 48 [(0, .ref 140), (3, .int (b2i (anyb (nwM w who t q M) k))), (4, .int (nI k + 1))] [] μ2 := by
        intro hs
        have hn : nwM w who t q M k = false := by
          unfold nwM
          cases hz : tkM w who t q M k with
          | none => rfl
          | some a => show (!bt (M k) a) = false; rw [hs a hz]; rfl
        have hf : (fun p => if p = k then (match tkM w who t q M k with | none => M k | some a => if bt (M k) a then M k else M k ||| ((1 : Int32) <<< (nI a &&& 31))) else tl1 w who t q M k p) = tl1 w who t q M k := by
          funext p
          by_cases q1 : p = k
          · rw [if_pos q1, q1, hek]
            cases hz : tkM w who t q M k with
            | none => rfl
            | some a => show (if _ then _ else _) = _; rw [if_pos (hs a hz)]
          · rw [if_neg q1]
        rw [hn, Bool.or_false, hf, nI_succ] at ih
        exact ih μ2 e2 e150 m2
      refine v_Mo_saysAll_48 (m_pe m2 (oI ⟨fun h => absurd h (by rw [agS_pe kW_ag]; exact nI_ge hk (by omega)), fun _ => ⟨vk, ?_⟩⟩))
      rw [er]
      cases hz : tkM w who t q M k with
      | none => exact ⟨fun _ => same (fun a ha => by rw [hz] at ha; cases ha), fun h => absurd (show (-1 : Int32) < 0 by decide) h⟩
      | some a =>
        have ha := tkM_lt (show 0 < th w by omega) hz
        refine ⟨fun h => absurd h (nI_nlt (a := a) (b := 0) (by omega) (by omega)), fun _ => ⟨vk, m_kn m2 (by omega) (by omega) (oI ⟨fun h => ?_, fun h => ?_⟩)⟩⟩
        · rw [b2i_0, kW_kno (by omega), hek] at h
          refine m_at (k := 4) (oI ⟨vp_in_nI (by omega) (by decide), vk, vp_in_nI (by omega) (by decide), ?_⟩)
          rw [er, hz]
          have hn : nwM w who t q M k = true := by unfold nwM; rw [hz]; show (!bt (M k) a) = true; rw [h]; rfl
          rw [hn, Bool.or_true, hz, nI_succ] at ih
          have e141 : mI μ2 141 = (kW w (tl1 w who t q M k)).1 := mw_i m2
          rw [nx_nI (by omega), e141]
          have e4 : (kW w (tl1 w who t q M k)).1 (19 + 6 * k + 4) = M k := (kW_4 (by omega)).trans hek
          rw [e4]
          have hi1 := tl1_hi (show 0 < th w by omega) t10 (who := who) (t := t) (q := q) (n := k + 1) hM0
          rw [tl1_1, hz] at hi1
          refine ih _ ((Lz_I rfl).trans e2) ?_ ⟨Prod.ext ?_ ?_, kW_WF hw0 hi1⟩
          · rw [rI_I, if_neg (by decide)]; exact e150
          · show mI (sI μ2 141 (19 + 6 * k + 4) _) 141 = _
            rw [rI_I, if_pos rfl, e141]
            funext j
            by_cases q1 : j = 19 + 6 * k + 4
            · subst q1
              rw [upd_s]
              refine Eq.symm ((kW_4 (p := k) (by omega)).trans ?_)
              rw [if_pos rfl]
              show (if _ then _ else _) = _
              rw [h]; rfl
            · rw [upd_n q1]
              by_cases q2 : 19 ≤ j ∧ j < 79 ∧ (j - 19) % 6 = 4
              · show (if _ then _ else _) = if _ then _ else _
                rw [if_pos q2, if_pos q2, if_neg (by omega)]
              · rw [kW_o q2, kW_o q2]
          · exact (mw_l m2).trans rfl
        · rw [b2i_n0, kW_kno (by omega), hek] at h
          exact same fun b hb => by rw [hz] at hb; rw [← Option.some.inj hb]; exact h
  · intro k hk ih μ' e h150
    have m' := MW_m m e
    have vk := vp_in_nI (N := 10) (show k < 10 by omega) (by decide)
    have nxt : ∀ μ2, Lz zM μ2 = Lz zM μ' → mI μ2 150 = mI μ' 150 → ∀ x, x = ov (tkM w who t q M k) → WW g i_Mo_saysAll 0 Φ 0 0 5 [(0, .ref 140), (1, .int (nI who)), (2, .int (nI (6 * t + q))), (3, .int 0), (4, .int (nI k + 1))] [] (sI μ2 150 (nx (nI k)) x) := by
      intro μ2 e2 e150 x hx
      rw [← nI_succ]
      refine ih _ ((Lz_I rfl).trans (e2.trans e)) fun p hp => ?_
      rw [rI_I, if_pos rfl, nx_nI (by omega)]
      by_cases q1 : p = k
      · rw [q1, upd_s, hx]
      · rw [upd_n q1, e150]; exact h150 p (by omega)
    refine v_Mo_saysAll_5 (m_pe m' (oI ⟨fun h => absurd h (by rw [epe]; exact nI_ge hk (by omega)), fun _ => ⟨fun hne => ?_, fun he => ⟨vk, ?_⟩⟩⟩))
    · refine m_tk m' (by rw [agS_th kW_ag]; exact ht) hq (by omega) (by omega) fun f => oI ⟨vk, nxt _ (Lz_RI fun _ => rfl) (by rw [rI_RI, if_neg (by decide)]) _ ?_⟩
      unfold tkM tkx
      rw [if_neg (fun e => hne (by rw [e])), kW_tk, kW_kno (by omega)]
    · refine nxt μ' rfl rfl _ ?_
      unfold tkM tkx
      rw [if_pos (nI_inj (by omega) (by omega) he)]; rfl
/-- the q's of a thing, said by one who may be away -/
theorem m_go (h : WF w) (m : MW μ (kW w M)) (H : ∀ μ', Lz zW μ' = Lz zW μ → MW μ' (kW w (rdM w M).1) → Φ (.inl (some (.int (b2i (rdM w M).2)))) μ') : Spec g i_Mo_goesThrough 0 [.ref 140] μ Φ := by
  have t10 := (wf_th h.1).2
  have p10 := (wf_pe h.1).2
  refine spi o_Mo_goesThrough rfl (v_Mo_goesThrough_0 ?_)
  refine zup (P := fun k => ∀ μ', Lz zW μ' = Lz zW μ → MW μ' (kW w (tlP w (M, false) k).1) → WW g i_Mo_goesThrough 0 Φ 0 0 4 [(0, .ref 140), (1, .int (b2i (tlP w (M, false) k).2)), (2, .int (nI k))] [] μ') (pe w) ?_ ?_ μ rfl m
  · intro μ' e m'
    exact v_Mo_goesThrough_4 (m_pe m' (oI ⟨fun _ => ⟨b2i_or _, H μ' e m'⟩, fun h => absurd (by rw [agS_pe kW_ag]; exact nI_le (Nat.le_refl _) (by omega)) h⟩))
  · intro p hp ihp μ1 e1 m1
    have hdp : tlP w (M, false) (p + 1) = if her w p then tlT w p (tlP w (M, false) p) (th w) else tlP w (M, false) p := rfl
    rw [hdp] at ihp
    generalize tlP w (M, false) p = s at *
    have hY : ∀ t, (if her w p then tlT w p s (t + 1) else s) = if her w p then tlQ w p t (if her w p then tlT w p s t else s) (wo w t) else (if her w p then tlT w p s t else s) := by
      intro t; cases her w p <;> rfl
    refine v_Mo_goesThrough_4 (m_pe m1 (oI ⟨fun h => absurd h (by rw [agS_pe kW_ag]; exact nI_ge hp (by omega)), fun _ => ?_⟩))
    refine zup (P := fun t => ∀ μ', Lz zW μ' = Lz zW μ → MW μ' (kW w (if her w p then tlT w p s t else s).1) → WW g i_Mo_goesThrough 0 Φ 0 0 14 [(0, .ref 140), (1, .int (b2i (if her w p then tlT w p s t else s).2)), (2, .int (nI p)), (3, .int (nI t))] [] μ') (th w) ?_ ?_ μ1 e1 (by
      have : (if her w p then tlT w p s 0 else s) = s := by split <;> rfl
      rw [this]; exact m1) |> fun key => by
        have : (if her w p then tlT w p s 0 else s) = s := by split <;> rfl
        rw [this] at key; exact key
    · intro μ' e m'
      refine v_Mo_goesThrough_14 (m_th m' (oI ⟨fun _ => ?_, fun h => absurd (by rw [agS_th kW_ag]; exact nI_le (Nat.le_refl _) (by omega)) h⟩))
      rw [← nI_succ]; exact ihp μ' e m'
    · intro t ht iht μ2 e2 m2
      have w6 := (wf_wo h.1 (show t < 10 by omega)).2.1
      rw [hY t] at iht
      generalize (if her w p then tlT w p s t else s) = y at *
      refine v_Mo_goesThrough_14 (m_th m2 (oI ⟨fun h => absurd h (by rw [agS_th kW_ag]; exact nI_ge ht (by omega)), fun _ => ?_⟩))
      have hX : ∀ q, (if her w p then tlQ w p t y (q + 1) else y) = if her w p && (bt ((if her w p then tlQ w p t y q else y).1 p) t && lef w t q) then (tl1 w p t q (if her w p then tlQ w p t y q else y).1 (pe w), (if her w p then tlQ w p t y q else y).2 || anyb (nwM w p t q (if her w p then tlQ w p t y q else y).1) (pe w)) else (if her w p then tlQ w p t y q else y) := by
        intro q; cases her w p <;> rfl
      have h0 : (if her w p then tlQ w p t y 0 else y) = y := by split <;> rfl
      refine zup (P := fun q => ∀ μ', Lz zW μ' = Lz zW μ → MW μ' (kW w (if her w p then tlQ w p t y q else y).1) → WW g i_Mo_goesThrough 0 Φ 0 0 25 [(0, .ref 140), (1, .int (b2i (if her w p then tlQ w p t y q else y).2)), (2, .int (nI p)), (3, .int (nI t)), (4, .int (nI q))] [] μ') (wo w t) ?_ ?_ μ2 e2 (by rw [h0]; exact m2) |> fun key => by
        rw [h0] at key; exact key
      · intro μ' e m'
        refine v_Mo_goesThrough_25 (m_wo m' (by omega) (oI ⟨fun _ => ?_, fun h => absurd (by rw [agS_wo kW_ag (by omega)]; exact nI_le (Nat.le_refl _) (by omega)) h⟩))
        rw [← nI_succ]; exact iht μ' e m'
      · intro q hq ihq μ3 e3 m3
        rw [hX q] at ihq
        generalize (if her w p then tlQ w p t y q else y) = x at *
        have hl : lef w t q = !sai w t q := by unfold lef; simp [hq]
        refine v_Mo_goesThrough_25 (m_wo m3 (by omega) (oI ⟨fun h => absurd h (by rw [agS_wo kW_ag (by omega)]; exact nI_ge hq (by omega)), fun _ => m_can m3 (by omega) (by omega) (oI ?_)⟩))
        rw [kW_her, kW_kno (by omega), kW_sai, ← hl]
        refine ⟨fun hc => ?_, fun hc => ?_⟩
        · rw [b2i_0] at hc
          rw [if_neg (by rw [hc]; decide), nI_succ] at ihq
          exact ihq μ3 e3 m3
        · rw [b2i_n0] at hc
          rw [if_pos hc, nI_succ] at ihq
          refine m_so (oI (m_sA h m3 hp ht (by omega) fun μ4 e4 m4 => oI ?_))
          rw [or_b]
          exact ihq μ4 (e4.trans e3) m4
def zLs (k j : Nat) : Bool := zW k j || (zK k j || (Nat.beq k 140 && Nat.beq j 0))
theorem zW_Ls {μ μ' : Mem} (e : Lz zW μ' = Lz zW μ) : Lz zLs μ' = Lz zLs μ := Lz_up (fun k j h => by unfold zLs; rw [h]; simp) e
theorem zK_Ls {μ μ' : Mem} (e : Lz zK μ' = Lz zK μ) : Lz zLs μ' = Lz zLs μ := Lz_up (fun k j h => by unfold zLs; rw [h]; simp) e
theorem zK_scr {μ μ' : Mem} (e : Lz zK μ' = Lz zK μ) (h : mI μ' 141 = mI μ 141) (h2 : mL μ' 140 6 = mL μ 140 6) (m : MW μ w) : MW μ' w := ⟨(Prod.ext h h2 : wv μ' = wv μ).trans m.1, m.2⟩
theorem m_las (m : MW μ w) (H : ∀ μ', Lz zLs μ' = Lz zLs μ → mI μ' 140 0 = 0 → MW μ' w → Φ (.inl (some (.int (nI (las w))))) μ') : Spec g i_Mo_last 0 [.ref 140] μ Φ := by
  have hw := m.2
  have t10 := (wf_th hw.1).2
  have p10 := (wf_pe hw.1).2
  have h31 : hiM w (KN w) := by
    intro p hp i h1 h2
    show bt (if p < 10 then pf w p 4 else 0) i = false
    rw [if_pos hp]
    exact (hw.1.2.2.2.2.2.2.2.1 p hp).2.2.2.2.1 i h1 h2
  refine spi o_Mo_last rfl (v_Mo_last_0 ?_)
  have m0 : MW (sI μ 140 0 0) w := ⟨(Prod.ext rfl rfl : wv (sI μ 140 0 0) = wv μ).trans m.1, m.2⟩
  refine m_keep m0 fun μ0 e0 h144 h9 => oV ?_
  have m1 : MW μ0 w := zK_scr e0 (rdI e0 fun _ => rfl) (rdL1 e0 rfl) m0
  have e00 : Lz zLs μ0 = Lz zLs μ := (zK_Ls e0).trans (Lz_I rfl)
  have t0 : mI μ0 140 0 = 0 := (rdI1 e0 rfl).trans (by rw [rI_I, if_pos rfl, upd_s])
  refine zup (P := fun r => ∀ μ', Lz zW μ' = Lz zW μ0 → MW μ' (kW w (itM w (KN w) r)) → (∀ j, j < r → (rdM w (itM w (KN w) j)).2 = true) → WW g i_Mo_last 0 Φ 0 0 11 [(0, .ref 140), (1, .int 1)] [] μ') 101 ?_ ?_ μ0 rfl (by rw [show itM w (KN w) 0 = KN w from rfl, kW_KN]; exact m1) fun j h => absurd h (Nat.not_lt_zero _)
  · intro μ' e _ hm
    have := itM_ms t10 (M := KN w) 101 hm
    have := msM_le p10 (itM w (KN w) 101)
    omega
  · intro r hr ih μ' e m' hm
    refine v_Mo_last_11 ⟨fun h => absurd h (by decide), fun _ => m_go hw m' fun μ2 e2 m2 => oI ?_⟩
    cases hb : (rdM w (itM w (KN w) r)).2 with
    | true =>
      refine ih μ2 (e2.trans e) m2 fun j hj => ?_
      by_cases q : j = r
      · rw [q]; exact hb
      · exact hm j (by omega)
    | false =>
      have hst : (rdM w (itM w (KN w) r)).1 = itM w (KN w) 101 := by
        rw [itM_st t10 hb 101 (by omega)]; exact rdM_same t10 hb
      rw [hst] at m2
      have e3 := e2.trans e
      refine v_Mo_last_11 ⟨fun _ => m_kh m2 (oI ?_), fun h => absurd rfl h⟩
      have eo : orf (fun p => if her (kW w (itM w (KN w) 101)) p then pf (kW w (itM w (KN w) 101)) p 4 else 0) (pe (kW w (itM w (KN w) 101))) = orf (fun p => if her w p then itM w (KN w) 101 p else 0) (pe w) := by
        rw [agS_pe kW_ag]
        exact orf_cong fun i hi => by rw [kW_her, kW_4 (by omega)]
      rw [eo]
      have i141 := mw_i m2
      refine m_back (v := w) (fun j hj => (rdI1 e3 rfl).trans (h144 j hj)) ((rdL1 e3 rfl).trans h9) (fun j hj => ?_) hw fun μ3 e4 m3 => oV ?_
      · rw [i141]; exact kW_o (by omega)
      have eE : Lz zW μ3 = Lz zW μ0 := e4.trans e3
      have H3 := H μ3 ((zW_Ls eE).trans e00) ((rdI1 eE rfl).trans t0) m3
      unfold las at H3
      generalize orf (fun p => if her w p then itM w (KN w) 101 p else 0) (pe w) = X at *
      refine zup (P := fun k => WW g i_Mo_last 0 Φ 0 0 37 [(0, .ref 140), (2, .int X), (3, .int (nI (sm (fun t => if bt X t then lf w t else 0) k))), (4, .int (nI k))] [] μ3) (th w) ?_ ?_
      · exact v_Mo_last_37 (m_th m3 (oI ⟨fun _ => H3, fun h => absurd (nI_le (Nat.le_refl _) (by omega)) h⟩))
      · intro k hk ihk
        have hd : sm (fun t => if bt X t then lf w t else 0) (k + 1) = sm (fun t => if bt X t then lf w t else 0) k + if bt X k then lf w k else 0 := rfl
        rw [hd, nI_succ] at ihk
        refine v_Mo_last_37 (m_th m3 (oI ⟨fun h => absurd h (nI_ge hk (by omega)), fun _ => m_has (by omega) (oI ⟨fun h => ?_, fun h => m_lf m3 (by omega) (oI ?_)⟩)⟩))
        · rw [b2i_0] at h
          rw [h, if_neg (by decide)] at ihk
          rw [show ∀ x : Int32, x + 0 = x from fun x => Int32.add_zero x]; exact ihk
        · rw [b2i_n0] at h
          rw [h, if_pos rfl, ← nI_add] at ihk; exact ihk
end MF
