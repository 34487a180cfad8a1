/-! acts: what they do to a world; the reference -/
abbrev AR : Type := (Nat × Int32) × Option WD
def gda (n : Nat) (x : Int32) (c : Nat) (k : Nat → AR) : AR := match ix n x with
  | none => ((c, 0), none)
  | some j => k j
theorem gda_n {n c : Nat} {x : Int32} {k : Nat → AR} (h : ix n x = none) : gda n x c k = ((c, 0), none) := by unfold gda; rw [h]
theorem gda_s {n c j : Nat} {x : Int32} {k : Nat → AR} (h : ix n x = some j) : gda n x c k = k j := by unfold gda; rw [h]
def abW (w : WD) (p : Nat) (d : Bool) : WD := (upd w.1 (24 + 6 * p) (b2i d), w.2)
def dyK (w : WD) (k : Nat) : WD := (fun j => if 19 ≤ j ∧ j < 19 + 6 * k ∧ (j - 19) % 6 = 5 then 0 else w.1 j, w.2)
def dyW (w : WD) : WD := (upd (dyK w 10).1 5 (w.1 5 + 1), w.2)
theorem abW_pf {w : WD} {p r k : Nat} {d : Bool} (hk : k < 6) : pf (abW w p d) r k = if r = p ∧ k = 5 then b2i d else pf w r k := by
  show upd w.1 (24 + 6 * p) _ (19 + 6 * r + k) = _
  by_cases h : r = p ∧ k = 5
  · rw [if_pos h, h.1, h.2, show 19 + 6 * p + 5 = 24 + 6 * p by omega, upd_s]
  · rw [if_neg h, upd_n (by omega)]; rfl
theorem abW_ag {w : WD} {p : Nat} {d : Bool} (hp : p < 10) : agS w (abW w p d) := fun j h5 h8 h => upd_n (by omega)
theorem dyK_ag {w : WD} {k : Nat} (hk : k ≤ 10) : agS w (dyK w k) := fun j h5 h8 h => if_neg (by omega)
theorem dyK_y {w : WD} {k j : Nat} (h : 19 ≤ j ∧ j < 19 + 6 * k ∧ (j - 19) % 6 = 5) : (dyK w k).1 j = 0 := if_pos h
theorem dyK_n {w : WD} {k j : Nat} (h : ¬ (19 ≤ j ∧ j < 19 + 6 * k ∧ (j - 19) % 6 = 5)) : (dyK w k).1 j = w.1 j := if_neg h
theorem dyK_pf {w : WD} {r k c : Nat} (hc : c < 6) : pf (dyK w k) r c = if r < k ∧ c = 5 then 0 else pf w r c := by
  show (if _ then _ else _) = _
  by_cases h : r < k ∧ c = 5
  · rw [if_pos h, if_pos (by omega)]
  · rw [if_neg h, if_neg (by omega)]; rfl
theorem dyW_ag {w : WD} : agS w (dyW w) := fun j h5 h8 h => by
  show upd (dyK w 10).1 5 _ j = _
  rw [upd_n h5]; exact dyK_ag (by omega) j h5 h8 h
theorem dyW_pf {w : WD} {r c : Nat} (hc : c < 6) : pf (dyW w) r c = pf (dyK w 10) r c := upd_n (by omega)
section ACTW
variable {w : WD}
theorem abW_WF {p : Nat} {d : Bool} (h : WF w) (hp : p < pe w) : WF (abW w p d) := by
  have p10 := (wf_pe h.1).2
  refine WF_ag (abW_ag (by omega)) rfl (fun r hr => ?_) h
  obtain ⟨k1, k2, k3, k4, k5, k6, k7⟩ := h.1.2.2.2.2.2.2.2.1 r hr
  unfold WFp
  rw [agS_th (abW_ag (by omega)), agS_pe (abW_ag (by omega))]
  simp only [abW_pf (show 0 < 6 by omega), abW_pf (show 1 < 6 by omega), abW_pf (show 2 < 6 by omega), abW_pf (show 3 < 6 by omega), abW_pf (show 4 < 6 by omega), abW_pf (show 5 < 6 by omega)]
  refine ⟨by simpa using k1, by simpa using k2, by simpa using k3, by simpa using k4, by simpa using k5, ?_, fun hr2 => ?_⟩
  · by_cases q : r = p
    · simp only [q, and_self, if_true]; exact b2i_or d
    · simpa [q] using k6
  · rw [if_neg (by omega)]; exact k7 hr2
theorem dyK_WF {k : Nat} (h : WF w) (hk : k ≤ 10) : WF (dyK w k) := by
  refine WF_ag (dyK_ag hk) rfl (fun r hr => ?_) h
  obtain ⟨k1, k2, k3, k4, k5, k6, k7⟩ := h.1.2.2.2.2.2.2.2.1 r hr
  unfold WFp
  rw [agS_th (dyK_ag hk), agS_pe (dyK_ag hk)]
  simp only [dyK_pf (show 0 < 6 by omega), dyK_pf (show 1 < 6 by omega), dyK_pf (show 2 < 6 by omega), dyK_pf (show 3 < 6 by omega), dyK_pf (show 4 < 6 by omega), dyK_pf (show 5 < 6 by omega)]
  refine ⟨by simpa using k1, by simpa using k2, by simpa using k3, by simpa using k4, by simpa using k5, ?_, fun hr2 => ?_⟩
  · split
    · exact Or.inl rfl
    · exact k6
  · split
    · rfl
    · exact k7 hr2
theorem dyW_WF (h : WF w) : WF (dyW w) := by
  refine WF_ag dyW_ag rfl (fun r hr => ?_) h
  have := (dyK_WF h (k := 10) (by omega)).1.2.2.2.2.2.2.2.1 r hr
  unfold WFp at *
  rw [dyW_pf (by omega), dyW_pf (by omega), dyW_pf (by omega), dyW_pf (by omega), dyW_pf (by omega), dyW_pf (by omega), agS_th dyW_ag, agS_pe dyW_ag]
  rw [agS_th (dyK_ag (by omega)), agS_pe (dyK_ag (by omega))] at this
  exact this
/-- who is not here is counted alike -/
theorem ct_not (f : Nat → Bool) (n : Nat) : ct (fun p => !f p) n + ct f n = n := by
  induction n with
  | zero => rfl
  | succ n ih =>
    cases h : f n with
    | true => rw [ct_t h, ct_f (f := fun p => !f p) (by simp [h])]; omega
    | false => rw [ct_f h, ct_t (f := fun p => !f p) (by simp [h])]; omega
theorem abs_ct (h : WF w) : ct (fun p => !her w p) 10 = pe w - ct (her w) (pe w) := by
  have p10 := (wf_pe h.1).2
  rw [ct_out (m := pe w) p10 (fun i h1 h2 => ?_)]
  · have := ct_not (her w) (pe w); omega
  · have := (h.1.2.2.2.2.2.2.2.1 i h2).2.2.2.2.2.2 h1
    unfold her; rw [this]; rfl
end ACTW
/-! what acts answer, and the world behind them -/
def a_say (w : WD) (a b c : Int32) : AR := gda (pe w) a 1 fun p => gda (th w) b 1 fun t => gda (wo w t) c 1 fun q => if (her w p && (kno w p t && !sai w t q)) = true then ((0, lw (sayW w p t q) 0 3), some (sayW w p t q)) else ((2, 0), none)
def a_think (w : WD) (a : Int32) : AR := gda (pe w) a 1 fun p => ((0, clo w 10 (pf w p 4) &&& (pf w p 4 ^^^ (-1))), some (knS w p (clo w 10 (pf w p 4))))
def a_away (w : WD) (a : Int32) (d : Bool) : AR := gda (pe w) a 1 fun p => ((0, if (!her w p) = d then 0 else 1), some (abW w p d))
def a_change (w : WD) (a b : Int32) : AR := gda (pe w) a 1 fun p => gda (pe w) b 1 fun q => if p = q then ((2, 0), none) else ((0, apa (trd w p q) p q), some (trd w p q))
def a_day (w : WD) : AR := ((0, nI (ct (fun p => !her w p) 10)), some (dyW w))
def a_term (w : WD) (a : Int32) : AR := gda 41 a 1 fun n => ((0, nI (tmW w n).2), some (tmW w n).1)
/-! the reference's acts -/
def zE (k j : Nat) : Bool := zLs k j || zB k j
theorem zB_E {μ μ' : Mem} (e : Lz zB μ' = Lz zB μ) : Lz zE μ' = Lz zE μ := Lz_up (fun k j h => by unfold zE; rw [h]; simp) e
theorem zLs_E {μ μ' : Mem} (e : Lz zLs μ' = Lz zLs μ) : Lz zE μ' = Lz zE μ := Lz_up (fun k j h => by unfold zE; rw [h]; simp) e
theorem zW_E {μ μ' : Mem} (e : Lz zW μ' = Lz zW μ) : Lz zE μ' = Lz zE μ := zLs_E (zW_Ls e)
theorem zW_J {μ μ' : Mem} (e : Lz zW μ' = Lz zW μ) : Lz zJ μ' = Lz zJ μ := Lz_up (fun k j h => by
  unfold zW zM at h; unfold zJ
  simp only [Bool.or_eq_true, Bool.and_eq_true, Nat.ble_eq, Nat.beq_eq] at h ⊢
  omega) e
def EM (Φ : Out → Mem → Prop) (μ : Mem) (w : WD) (r : Nat) (V : Nat → WD) (x : AR) : Prop := ∀ μ', Lz zE μ' = Lz zE μ → mI μ' 140 0 = nI x.1.1 → (match x.2 with
  | none => MW μ' w ∧ ACTM μ' r V
  | some w' => MW μ' w' ∧ ACTM μ' (nr r) (nV r V w)) → Φ (.inl (some (.int x.1.2))) μ'
section ACTM
variable {g : Gl} {Φ : Out → Mem → Prop} {μ : Mem} {w : WD} {r : Nat} {V : Nat → WD}
theorem MW_z {z : Nat → Nat → Bool} {μ' : Mem} (e : Lz z μ' = Lz z μ) (h1 : ∀ j, z 141 j = false) (h2 : z 140 6 = false) (m : MW μ w) : MW μ' w :=
  ⟨Prod.ext ((rdI e h1).trans (mw_i m)) ((rdL1 e h2).trans (mw_l m)), m.2⟩
theorem ac0 (ac : ACTM μ r V) {x : Int32} : ACTM (sI μ 140 0 x) r V := ACTM_J (Lz_I rfl) ac
theorem EM_er {c : Nat} {x : Int32} (H : EM Φ μ w r V ((c, 0), none)) (hx : x = nI c) (m : MW μ w) (a : ACTM μ r V) : Φ (.inl (some (.int 0))) (sI (sI μ 140 0 0) 140 0 x) :=
  H _ ((Lz_I rfl).trans (Lz_I rfl)) (by rw [rI_I, if_pos rfl, upd_s]; exact hx) ⟨MW_0 (MW_0 m), ac0 (ac0 a)⟩
theorem EM_ok {v : Int32} {w' : WD} (H : EM Φ μ w r V ((0, v), some w')) {μ1 μ' : Mem} (e1 : Lz zB μ1 = Lz zB (sI μ 140 0 0)) (a1 : ACTM μ1 (nr r) (nV r V w)) (e : Lz zW μ' = Lz zW μ1) (m' : MW μ' w') : Φ (.inl (some (.int v))) μ' := by
  refine H μ' ((zW_E e).trans ((zB_E e1).trans (Lz_I rfl))) ?_ ⟨m', ACTM_J (zW_J e) a1⟩
  rw [rdI1 e rfl, rdI1 e1 rfl, rI_I, if_pos rfl, upd_s]; rfl
theorem M_say (hr : r ≤ 12) (m : MW μ w) (ac : ACTM μ r V) {a b c : Int32} (H : EM Φ μ w r V (a_say w a b c)) : Spec g i_Mo_say 0 [.ref 140, .int a, .int b, .int c] μ Φ := by
  have p10 := (wf_pe m.2.1).2
  have t10 := (wf_th m.2.1).2
  have m0 : MW (sI μ 140 0 0) w := MW_0 m
  unfold a_say at H
  refine spi o_Mo_say rfl (v_Mo_say_0 ?_)
  rcases ix_cs (n := pe w) (by omega) a with ⟨ep, hp⟩ | ⟨p, hp, rfl, ep⟩
  · rw [gda_n ep] at H
    exact m_nP1 m0 hp (oI ⟨fun _ => thr1 (oI ⟨fun _ => EM_er H (by decide) m ac, fun h => absurd h (by decide)⟩), fun h => absurd h (by decide)⟩)
  rw [gda_s ep] at H
  refine m_nP0 m0 hp (oI ⟨fun h => absurd rfl h, fun _ => ?_⟩)
  rcases ix_cs (n := th w) (by omega) b with ⟨et, ht⟩ | ⟨t, ht, rfl, et⟩
  · rw [gda_n et] at H
    exact m_nW2 m0 ht (oI ⟨fun h => absurd h (by decide), fun _ => thr1 (oI ⟨fun _ => EM_er H (by decide) m ac, fun h => absurd h (by decide)⟩)⟩)
  rw [gda_s et] at H
  have w6 := (wf_wo m.2.1 (show t < 10 by omega)).2.1
  rcases ix_cs (n := wo w t) (by omega) c with ⟨eq, hq⟩ | ⟨q, hq, rfl, eq⟩
  · rw [gda_n eq] at H
    exact m_nW1 m0 ht hq (oI ⟨fun h => absurd h (by decide), fun _ => thr1 (oI ⟨fun _ => EM_er H (by decide) m ac, fun h => absurd h (by decide)⟩)⟩)
  rw [gda_s eq] at H
  refine m_nW0 m0 ht hq (oI ⟨fun _ => thr0 (oI ⟨fun h => absurd rfl h, fun _ => m_can m0 (by omega) (by omega) (oI ⟨fun h => ?_, fun h => ?_⟩)⟩), fun h => absurd rfl h⟩)
  · have hc := b2i_n0.mp h
    rw [if_pos hc] at H
    have hn : sai w t q = false := by
      simp only [Bool.and_eq_true, Bool.not_eq_true'] at hc; exact hc.2.2
    refine thr0 (oI ⟨fun _ => m_rem hr m0 (ac0 ac) fun μ2 e2 a2 => oV (m_so (oI ?_)), fun h => absurd rfl h⟩)
    exact m_says (MW_z e2 (fun _ => rfl) rfl m0) hp ht hq hn fun μ3 e3 m3 => oI (EM_ok H e2 a2 e3 m3)
  · rw [if_neg (by rw [b2i_0.mp h]; decide)] at H
    exact thr1 (oI ⟨fun h => absurd h (by decide), fun _ => EM_er H (by decide) m ac⟩)
theorem M_think (hr : r ≤ 12) (m : MW μ w) (ac : ACTM μ r V) {a : Int32} (H : EM Φ μ w r V (a_think w a)) : Spec g i_Mo_think 0 [.ref 140, .int a] μ Φ := by
  have p10 := (wf_pe m.2.1).2
  have t10 := (wf_th m.2.1).2
  have m0 : MW (sI μ 140 0 0) w := MW_0 m
  unfold a_think at H
  refine spi o_Mo_think rfl (v_Mo_think_0 ?_)
  rcases ix_cs (n := pe w) (by omega) a with ⟨ep, hp⟩ | ⟨p, hp, rfl, ep⟩
  · rw [gda_n ep] at H
    exact m_nP1 m0 hp (oI (thr1 (oI ⟨fun h => absurd h (by decide), fun _ => EM_er H (by decide) m ac⟩)))
  rw [gda_s ep] at H
  refine m_nP0 m0 hp (oI (thr0 (oI ⟨fun _ => m_rem hr m0 (ac0 ac) fun μ2 e2 a2 => oV ?_, fun h => absurd rfl h⟩)))
  have m2 := MW_z e2 (fun _ => rfl) rfl m0
  have hb : ∀ i, th w ≤ i → i < 32 → bt (pf w p 4) i = false := (m.2.1.2.2.2.2.2.2.2.1 p (by omega)).2.2.2.2.1
  refine m_of (k := 4) m2 (by omega) (by decide) (oI (m_at (k := 4) (oI (m_clo m2 (fun i h1 h2 => hb i (by omega) h2) (oI ⟨vp_in_nI (by omega) (by decide), ?_⟩)))))
  have hx : ∀ i, th w ≤ i → i < 32 → bt (clo w 10 (pf w p 4)) i = false := clo_hi m.2.1 (Nat.le_refl _) hb 10
  have hW := knS_WF m.2 (show p < 10 by omega) hx
  rw [nx_nI (by omega), show 19 + 6 * p + 4 = 23 + 6 * p by omega, sI_RI, mw_i m2]
  have m3 : MW (sRI μ2 141 (knS w p (clo w 10 (pf w p 4))).1) (knS w p (clo w 10 (pf w p 4))) := MW_141 (v := knS w p (clo w 10 (pf w p 4))) (mw_l (w := w) m2) hW
  refine m_of (k := 4) m3 (by omega) (by decide) (oI ?_)
  rw [knS_pf (by decide), if_pos ⟨rfl, rfl⟩]
  exact EM_ok H e2 a2 zW_141 m3
theorem M_away (hr : r ≤ 12) (m : MW μ w) (ac : ACTM μ r V) {a : Int32} {d : Bool} (H : EM Φ μ w r V (a_away w a d)) : Spec g i_Mo_away 0 [.ref 140, .int a, .int (b2i d)] μ Φ := by
  have p10 := (wf_pe m.2.1).2
  have t10 := (wf_th m.2.1).2
  have m0 : MW (sI μ 140 0 0) w := MW_0 m
  unfold a_away at H
  refine spi o_Mo_away rfl (v_Mo_away_0 ?_)
  rcases ix_cs (n := pe w) (by omega) a with ⟨ep, hp⟩ | ⟨p, hp, rfl, ep⟩
  · rw [gda_n ep] at H
    exact m_nP1 m0 hp (oI (thr1 (oI ⟨fun h => absurd h (by decide), fun _ => z01 (EM_er H (by decide) m ac)⟩)))
  rw [gda_s ep] at H
  refine m_nP0 m0 hp (oI (thr0 (oI ⟨fun _ => m_rem hr m0 (ac0 ac) fun μ2 e2 a2 => oV ?_, fun h => absurd rfl h⟩)))
  have m2 := MW_z e2 (fun _ => rfl) rfl m0
  have hW : WF (abW w p d) := abW_WF m.2 hp
  have v : vp_in (nI (19 + 6 * p + 5)) 2713 := vp_in_nI (by omega) (by decide)
  have m3 : MW (sI μ2 141 (nx (nI (19 + 6 * p + 5))) (b2i d)) (abW w p d) := by
    rw [nx_nI (by omega), show 19 + 6 * p + 5 = 24 + 6 * p by omega, sI_RI, mw_i m2]
    exact MW_141 (v := abW w p d) (mw_l (w := w) m2) hW
  have e3 : Lz zW (sI μ2 141 (nx (nI (19 + 6 * p + 5))) (b2i d)) = Lz zW μ2 := by
    rw [sI_RI]; exact zW_141
  have fin := EM_ok H e2 a2 e3 m3
  have f0 : (!her w p) = d → Φ (.inl (some (.int 0))) (sI μ2 141 (nx (nI (19 + 6 * p + 5))) (b2i d)) := fun e => by rw [if_pos e] at fin; exact fin
  have f1 : ¬ (!her w p) = d → Φ (.inl (some (.int 1))) (sI μ2 141 (nx (nI (19 + 6 * p + 5))) (b2i d)) := fun e => by rw [if_neg e] at fin; exact fin
  refine m_her m2 (by omega) (oI ⟨fun h => m_at (k := 5) (oI ?_), fun h => m_at (k := 5) (oI ?_)⟩)
  · have hh := b2i_n0.mp h
    rw [hh] at f0 f1
    cases d with
    | false => exact ⟨fun _ => ⟨v, fun _ => z01 (f0 rfl), fun h => absurd rfl h⟩, fun h => absurd rfl h⟩
    | true => exact ⟨fun h => absurd h (by decide), fun _ => ⟨v, fun h => absurd h (by decide), fun _ => z11 (f1 (by decide))⟩⟩
  · have hh := b2i_0.mp h
    rw [hh] at f0 f1
    cases d with
    | false => exact ⟨fun _ => ⟨v, fun h => absurd h (by decide), fun _ => z11 (f1 (by decide))⟩, fun h => absurd rfl h⟩
    | true => exact ⟨fun h => absurd h (by decide), fun _ => ⟨v, fun _ => z01 (f0 rfl), fun h => absurd rfl h⟩⟩
theorem M_change (hr : r ≤ 12) (m : MW μ w) (ac : ACTM μ r V) {a b : Int32} (H : EM Φ μ w r V (a_change w a b)) : Spec g i_Mo_change 0 [.ref 140, .int a, .int b] μ Φ := by
  have p10 := (wf_pe m.2.1).2
  have t10 := (wf_th m.2.1).2
  have m0 : MW (sI μ 140 0 0) w := MW_0 m
  unfold a_change at H
  refine spi o_Mo_change rfl (v_Mo_change_0 ?_)
  rcases ix_cs (n := pe w) (by omega) a with ⟨ep, hp⟩ | ⟨p, hp, rfl, ep⟩
  · rw [gda_n ep] at H
    exact m_nP1 m0 hp (oI ⟨fun _ => thr1 (oI ⟨fun _ => EM_er H (by decide) m ac, fun h => absurd h (by decide)⟩), fun h => absurd h (by decide)⟩)
  rw [gda_s ep] at H
  refine m_nP0 m0 hp (oI ⟨fun h => absurd rfl h, fun _ => ?_⟩)
  rcases ix_cs (n := pe w) (by omega) b with ⟨eq, hq⟩ | ⟨q, hq, rfl, eq⟩
  · rw [gda_n eq] at H
    exact m_nP1 m0 hq (oI ⟨fun h => absurd h (by decide), fun _ => thr1 (oI ⟨fun _ => EM_er H (by decide) m ac, fun h => absurd h (by decide)⟩)⟩)
  rw [gda_s eq] at H
  refine m_nP0 m0 hq (oI ⟨fun _ => thr0 (oI ⟨fun h => absurd rfl h, fun _ => ⟨fun h => ?_, fun h => ?_⟩⟩), fun h => absurd rfl h⟩)
  · have hn : p ≠ q := fun e => h (by rw [e])
    rw [if_neg hn] at H
    refine thr0 (oI ⟨fun _ => m_rem hr m0 (ac0 ac) fun μ2 e2 a2 => oV ?_, fun h => absurd rfl h⟩)
    exact m_trd (MW_z e2 (fun _ => rfl) rfl m0) (by omega) (by omega) hn fun μ3 e3 m3 => oV (m_apa m3 (by omega) (by omega) (oI (EM_ok H e2 a2 e3 m3)))
  · rw [if_pos (nI_inj (by omega) (by omega) h)] at H
    exact thr1 (oI ⟨fun h => absurd h (by decide), fun _ => EM_er H (by decide) m ac⟩)
theorem M_day (hr : r ≤ 12) (m : MW μ w) (ac : ACTM μ r V) (H : EM Φ μ w r V (a_day w)) : Spec g i_Mo_day 0 [.ref 140] μ Φ := by
  have p10 := (wf_pe m.2.1).2
  have m0 : MW (sI μ 140 0 0) w := MW_0 m
  refine spi o_Mo_day rfl (v_Mo_day_0 (m_rem hr m0 (ac0 ac) fun μ2 e2 a2 => oV ?_))
  have m2 := MW_z e2 (fun _ => rfl) rfl m0
  refine m_pe m2 (oI (m_here m2 (oI (c_bc (oI ?_)))))
  have hct := ct_le (her w) (pe w)
  rw [bc_msk p10, pk_sub hct, ← abs_ct m.2]
  have fin : Φ (.inl (some (.int (nI (ct (fun p => !her w p) 10))))) (sRI μ2 141 (dyW w).1) := EM_ok H e2 a2 zW_141 (MW_141 (v := dyW w) (mw_l (w := w) m2) (dyW_WF m.2))
  have key := zup (P := fun k => WW g i_Mo_day 0 Φ 0 0 24 [(0, .ref 140), (1, .int (nI (ct (fun p => !her w p) 10))), (2, .int (nI k))] [] (sRI μ2 141 (dyK w k).1)) (pe w) ?_ ?_
  · have e0 : (dyK w 0).1 = mI μ2 141 := by
      rw [mw_i m2]; funext j; exact if_neg (by omega)
    rw [e0, sRI_self] at key; exact key
  · have m3 : MW (sRI μ2 141 (dyK w (pe w)).1) (dyK w (pe w)) := MW_141 (v := dyK w (pe w)) (mw_l (w := w) m2) (dyK_WF m.2 p10)
    refine v_Mo_day_24 (m_pe m3 (oI ?_))
    rw [agS_pe (dyK_ag p10)]
    refine ⟨fun _ => ⟨vin 5 rfl, vin 5 rfl, ?_⟩, fun h => absurd (nI_le (Nat.le_refl _) (by omega)) h⟩
    have e1 : sI (sRI μ2 141 (dyK w (pe w)).1) 141 (nx 5) (mI (sRI μ2 141 (dyK w (pe w)).1) 141 (nx 5) + 1) = sRI μ2 141 (dyW w).1 := by
      rw [sI_sRI]
      congr 1
      funext j
      show upd (dyK w (pe w)).1 5 _ j = upd (dyK w 10).1 5 _ j
      by_cases h5 : j = 5
      · rw [h5, upd_s, upd_s, rI_RI, if_pos rfl]
        show (dyK w (pe w)).1 5 + 1 = _
        rw [dyK_n (by omega)]
      · rw [upd_n h5, upd_n h5]
        show (if _ then _ else _) = if _ then _ else _
        by_cases h1 : 19 ≤ j ∧ j < 19 + 6 * pe w ∧ (j - 19) % 6 = 5
        · rw [if_pos h1, if_pos (by omega)]
        · rw [if_neg h1]
          by_cases h2 : 19 ≤ j ∧ j < 19 + 6 * 10 ∧ (j - 19) % 6 = 5
          · rw [if_pos h2]
            have := (m.2.1.2.2.2.2.2.2.2.1 ((j - 19) / 6) (by omega)).2.2.2.2.2.2 (by omega)
            have ej : 19 + 6 * ((j - 19) / 6) + 5 = j := by omega
            have this : w.1 (19 + 6 * ((j - 19) / 6) + 5) = 0 := this
            rw [ej] at this; exact this
          · rw [if_neg h2]
    rw [e1]; exact fin
  · intro k hk ih
    have m3 : MW (sRI μ2 141 (dyK w k).1) (dyK w k) := MW_141 (v := dyK w k) (mw_l (w := w) m2) (dyK_WF m.2 (by omega))
    refine v_Mo_day_24 (m_pe m3 (oI ?_))
    rw [agS_pe (dyK_ag (show k ≤ 10 by omega))]
    refine ⟨fun h => absurd h (nI_ge hk (by omega)), fun _ => m_at (k := 5) (oI ⟨vp_in_nI (by omega) (by decide), ?_⟩)⟩
    rw [nx_nI (by omega), sI_sRI, ← nI_succ]
    have e1 : upd (dyK w k).1 (19 + 6 * k + 5) 0 = (dyK w (k + 1)).1 := by
      funext j
      by_cases h : j = 19 + 6 * k + 5
      · rw [h, upd_s, dyK_y (by omega)]
      · rw [upd_n h]
        by_cases h1 : 19 ≤ j ∧ j < 19 + 6 * k ∧ (j - 19) % 6 = 5
        · rw [dyK_y h1, dyK_y (by omega)]
        · rw [dyK_n h1, dyK_n (by omega)]
    rw [e1]; exact ih
theorem M_term (hr : r ≤ 12) (m : MW μ w) (ac : ACTM μ r V) {a : Int32} (H : EM Φ μ w r V (a_term w a)) : Spec g i_Mo_term 0 [.ref 140, .int a] μ Φ := by
  have m0 : MW (sI μ 140 0 0) w := MW_0 m
  unfold a_term at H
  refine spi o_Mo_term rfl (v_Mo_term_0 ?_)
  rcases ix_cs (n := 41) (by omega) a with ⟨ep, hp⟩ | ⟨n, hn, rfl, ep⟩
  · rw [gda_n ep] at H
    exact m_in0 (n := 40) (by decide) hp (oI ⟨fun h => absurd rfl h, fun _ => thr1 (oI ⟨fun h => absurd h (by decide), fun _ => EM_er H (by decide) m ac⟩)⟩)
  rw [gda_s ep] at H
  refine m_in1 (n := 40) (by decide) (by omega) (oI ⟨fun _ => thr0 (oI ⟨fun _ => m_rem hr m0 (ac0 ac) fun μ2 e2 a2 => oV ?_, fun h => absurd rfl h⟩), fun h => absurd h (by decide)⟩)
  exact m_run (MW_z e2 (fun _ => rfl) rfl m0) (by omega) fun μ3 e3 m3 => oI (EM_ok H e2 a2 e3 m3)
end ACTM
