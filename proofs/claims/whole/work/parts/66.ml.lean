/-! the reference's exam, groups, call -/
def exF (w : WD) : Int32 := orf (fun p => if her w p then clo w 10 (pf w p 4) &&& (pf w p 4 ^^^ (-1)) else 0) (pe w)
def exW (w : WD) : Int32 := exF w &&& (msk (th w) (fun t => !decide (lf w t = wo w t)) ^^^ (-1))
def same (w : WD) (p o : Nat) : Bool := decide (pf w o 4 = pf w p 4)
def frst (w : WD) (p : Nat) : Bool := decide (∀ q, q < p → ¬ pf w q 4 = pf w p 4)
def gmx (w : WD) : Nat → Nat
  | 0 => 0
  | p + 1 => max (gmx w p) (ct (same w p) (pe w))
def gct (w : WD) (n : Nat) : Nat := sm (fun p => if frst w p then 1 else 0) n
def itsN (w : WD) (p t : Nat) : Nat := (100 - nx (pf w p 3)) * mbN w p t (wo w t)
def clB (m : Nat) (s : Option Nat × Nat) : Bool := match s.1 with
  | none => true
  | some _ => decide (s.2 < m)
def clS (w : WD) (t : Nat) : Nat → Option Nat × Nat
  | 0 => (none, 0)
  | p + 1 => if (her w p && (kno w p t && !decide (lf w t = 0))) && clB (itsN w p t) (clS w t p) then (some p, itsN w p t) else clS w t p
/-- what one takes another's saying for, if it can be said -/
def bwV (w : WD) (a b t q : Nat) : Int32 := if her w a && (kno w a t && !sai w t q) then (match tk0 w a t q b with
  | none => 0
  | some k => (1 : Int32) <<< (nI k &&& 31)) else 0
def bwQ (w : WD) (a b t : Nat) (s : Int32) : Nat → Int32
  | 0 => s
  | q + 1 => bwQ w a b t s q ||| bwV w a b t q
def bwT (w : WD) (a b : Nat) : Nat → Int32
  | 0 => 0
  | t + 1 => bwQ w a b t (bwT w a b t) (wo w t)
/-- how many take a saying as that -/
def ecn (w : WD) (who t q a : Nat) : Nat := ct (fun p => decide (tk0 w who t q p = some a)) (pe w)
def ecS (w : WD) (who t q : Nat) : Nat → Nat × Option Nat × Nat
  | 0 => (0, none, 0)
  | a + 1 => ((ecS w who t q a).1 + (if 0 < ecn w who t q a then 1 else 0), if (ecS w who t q a).2.2 < ecn w who t q a then (some a, ecn w who t q a) else (ecS w who t q a).2)
def tld (o : Option Nat) : Int32 := match o with
  | none => 255
  | some a => nI a
/-- whether a saying is taken as told -/
def cso (w : WD) (f : Nat → Int32) (who t q : Nat) : Bool := decide (∀ p, p < pe w → ¬ p = who → f p = tld (tk0 w who t q p))
section ML
variable {g : Gl} {Φ : Out → Mem → Prop} {μ : Mem} {w : WD}
theorem wf_k10 (h : WFs w) {p : Nat} (hp : p < 10) : ∀ i, 10 ≤ i → i < 32 → bt (pf w p 4) i = false := fun i h1 h2 => (h.2.2.2.2.2.2.2.1 p hp).2.2.2.2.1 i (by have := (wf_th h).2; omega) h2
theorem wf_st (h : WFs w) {p : Nat} (hp : p < 10) : pf w p 3 = nI (nx (pf w p 3)) ∧ nx (pf w p 3) ≤ 100 := by
  obtain ⟨x, h1, h2⟩ := (h.2.2.2.2.2.2.2.1 p hp).2.2.2.1
  rw [h2, nx_nI (by omega)]; exact ⟨rfl, h1⟩
theorem i_100 {x : Nat} (h : x ≤ 100) (m : Nat) : ((100 : Int32) - nI x) * nI m = nI ((100 - x) * m) := by
  rw [show (100 : Int32) = nI 100 from rfl, pk_sub h, pk_mul]
theorem m_exm (m : MW μ w) (H : Φ (.inl (some (.int (exW w)))) μ) : WW g i_Mo_exam 0 Φ 0 0 9 [(0, .ref 140), (1, .int 0), (2, .int 0)] [] μ := by
  have p10 := (wf_pe m.2.1).2
  have t10 := (wf_th m.2.1).2
  refine zup (P := fun k => WW g i_Mo_exam 0 Φ 0 0 9 [(0, .ref 140), (1, .int (orf (fun p => if her w p then clo w 10 (pf w p 4) &&& (pf w p 4 ^^^ (-1)) else 0) k)), (2, .int (nI k))] [] μ) (pe w) ?_ ?_
  · refine v_Mo_exam_9 (m_pe m (oI ⟨fun _ => ?_, fun h => absurd (nI_le (Nat.le_refl _) (by omega)) h⟩))
    show WW g i_Mo_exam 0 Φ 0 0 59 [(0, .ref 140), (1, .int (exF w)), (2, .int 0)] [] μ
    unfold exW at H
    generalize exF w = X at *
    have key := zup (P := fun k => WW g i_Mo_exam 0 Φ 0 0 59 [(0, .ref 140), (1, .int (X &&& (msk k (fun t => !decide (lf w t = wo w t)) ^^^ (-1)))), (2, .int (nI k))] [] μ) (th w) ?_ ?_
    · rw [show msk 0 (fun t => !decide (lf w t = wo w t)) = 0 from rfl, and_m1] at key; exact key
    · exact v_Mo_exam_59 (m_th m (oI ⟨fun _ => H, fun h => absurd (nI_le (Nat.le_refl _) (by omega)) h⟩))
    · intro k hk ih
      refine v_Mo_exam_59 (m_th m (oI ⟨fun h => absurd h (nI_ge hk (by omega)), fun _ => m_ns m (by omega) (oI ⟨fun h => ?_, fun h => ?_⟩)⟩))
      · rw [b2i_0] at h
        rw [msk_t (by show (!decide (lf w k = wo w k)) = true; rw [h]; rfl), ← andno, nI_succ] at ih; exact ih
      · rw [b2i_n0] at h
        rw [msk_f (by show (!decide (lf w k = wo w k)) = false; rw [h]; rfl), or0, nI_succ] at ih
        rw [andself]; exact ih
  · intro k hk ih
    refine v_Mo_exam_9 (m_pe m (oI ⟨fun h => absurd h (nI_ge hk (by omega)), fun _ => m_her m (by omega) (oI ⟨fun h => ?_, fun h => m_of (k := 4) m (by omega) (by decide) (oI (m_clo m (wf_k10 m.2.1 (by omega)) (oI (m_of (k := 4) m (by omega) (by decide) (oI ?_)))))⟩)⟩))
    · rw [orf_f (c := her w) (f := fun p => clo w 10 (pf w p 4) &&& (pf w p 4 ^^^ (-1))) (b2i_0.mp h), nI_succ] at ih; exact ih
    · rw [orf_t (c := her w) (f := fun p => clo w 10 (pf w p 4) &&& (pf w p 4 ^^^ (-1))) (b2i_n0.mp h), nI_succ] at ih; exact ih
theorem gmx_le : ∀ n, gmx w n ≤ pe w := by
  intro n
  induction n with
  | zero => exact Nat.zero_le _
  | succ n ih => exact Nat.max_le.mpr ⟨ih, ct_le _ _⟩
theorem m_gps {d : Int32} (m : MW μ w) (H : Φ (.inl (some (.int (if d = 0 then nI (gct w (pe w)) else nI (gmx w (pe w)))))) μ) : WW g i_Mo_groups 0 Φ 0 0 12 [(0, .ref 140), (1, .int d), (2, .int 0), (3, .int 0), (4, .int 0)] [] μ := by
  have p10 := (wf_pe m.2.1).2
  refine zup (P := fun k => WW g i_Mo_groups 0 Φ 0 0 12 [(0, .ref 140), (1, .int d), (2, .int (nI (gct w k))), (3, .int (nI (gmx w k))), (4, .int (nI k))] [] μ) (pe w) ?_ ?_
  · refine v_Mo_groups_12 (m_pe m (oI ⟨fun _ => ⟨fun h => ?_, fun h => ?_⟩, fun h => absurd (nI_le (Nat.le_refl _) (by omega)) h⟩))
    · rw [if_pos h] at H; exact H
    · rw [if_neg h] at H; exact H
  · intro k hk ih
    have hd : gct w (k + 1) = gct w k + if frst w k then 1 else 0 := rfl
    have hd2 : gmx w (k + 1) = max (gmx w k) (ct (same w k) (pe w)) := rfl
    have gl := gmx_le (w := w) k
    have cl := ct_le (same w k) (pe w)
    rw [hd, hd2, nI_succ, ← mmax_nI (by omega) (by omega), ← bc_msk p10] at ih
    have hb : ∀ i, i < 32 → bt (msk (pe w) (fun o => decide (pf w o 4 = pf w k 4))) i = (decide (i < pe w) && same w k i) := fun i hi => b_msk (by omega) hi
    have htz : tzF (msk (pe w) (fun o => decide (pf w o 4 = pf w k 4))) = nI (lo (bt (msk (pe w) (fun o => decide (pf w o 4 = pf w k 4)))) 10) := by
      refine tz_small (fun i h1 h2 => by rw [hb i h2]; simp; omega) fun h0 => ?_
      have := hb k (by omega)
      rw [h0, b_0] at this
      simp [hk, same] at this
    refine v_Mo_groups_12 (m_pe m (oI ⟨fun h => absurd h (nI_ge hk (by omega)), fun _ => m_grp m (by omega) (oI (c_tz (oI ?_)))⟩))
    show (¬ tzF _ = nI k → _) ∧ (tzF _ = nI k → _)
    rw [htz]
    have lk : bt (msk (pe w) (fun o => decide (pf w o 4 = pf w k 4))) k = true := by rw [hb k (by omega)]; simp [hk, same]
    refine ⟨fun h => m_grp m (by omega) (oI (c_bc (oI ?_))), fun h => m_grp m (by omega) (oI (c_bc (oI ?_)))⟩
    · have hf : frst w k = false := decide_eq_false fun hall => h (congrArg nI (lo_eq (by omega) lk fun i hi => by
        rw [hb i (by omega)]; simp [same, hall i hi]))
      rw [hf] at ih; rw [i_a0]; exact ih
    · have h := nI_inj (by have := lo_le (bt (msk (pe w) (fun o => decide (pf w o 4 = pf w k 4)))) 10; omega) (by omega) h
      have hf : frst w k = true := decide_eq_true fun q hq hs => by
        have := lo_no (f := bt (msk (pe w) (fun o => decide (pf w o 4 = pf w k 4)))) (n := 10) (i := q) (by omega)
        rw [hb q (by omega)] at this
        simp [same, hs] at this
        omega
      rw [hf, if_pos rfl, nI_succ] at ih; exact ih
theorem its_le (h : WFs w) {p t : Nat} : itsN w p t ≤ 1000 := by
  have p10 := (wf_pe h).2
  have := mbN_le w p t (wo w t)
  unfold itsN
  exact Nat.le_trans (Nat.mul_le_mul (show 100 - nx (pf w p 3) ≤ 100 by omega) (show mbN w p t (wo w t) ≤ 10 by omega)) (by decide)
theorem clS_le (h : WFs w) {t : Nat} : ∀ n, (clS w t n).2 ≤ 1000 := by
  intro n
  induction n with
  | zero => exact Nat.zero_le _
  | succ n ih => unfold clS; split
                 · exact its_le h
                 · exact ih
theorem clS_lt {t : Nat} : ∀ {n b : Nat}, (clS w t n).1 = some b → b < n := by
  intro n
  induction n with
  | zero => intro b h; cases h
  | succ n ih =>
    intro b h
    unfold clS at h
    by_cases hb : ((her w n && (kno w n t && !decide (lf w t = 0))) && clB (itsN w n t) (clS w t n)) = true
    · rw [if_pos hb] at h; have := Option.some.inj h; omega
    · rw [if_neg hb] at h; have := ih h; omega
theorem m_cal {d : Int32} {t : Nat} (m : MW μ w) (ht : t < th w) (H : ∀ f, Φ (.inl (some (.int (if d = 0 then ov (clS w t (pe w)).1 else nI (clS w t (pe w)).2)))) (sRI μ 149 f)) : WW g i_Mo_call 0 Φ 0 0 28 [(0, .ref 140), (1, .int (nI t)), (2, .int d), (3, .int (-1)), (4, .int 0), (5, .int 0)] [] μ := by
  have p10 := (wf_pe m.2.1).2
  have t10 := (wf_th m.2.1).2
  have l6 := lf_le w t
  have w6 := (wf_wo m.2.1 (show t < 10 by omega)).2.1
  have key := zup (P := fun k => ∀ f, WW g i_Mo_call 0 Φ 0 0 28 [(0, .ref 140), (1, .int (nI t)), (2, .int d), (3, .int (ov (clS w t k).1)), (4, .int (nI (clS w t k).2)), (5, .int (nI k))] [] (sRI μ 149 f)) (pe w) ?_ ?_
  · have := key (mI μ 149); rw [sRI_self] at this; exact this
  · intro f
    have H := H f
    refine v_Mo_call_28 (m_pe (MW_149 m f) (oI ⟨fun _ => ⟨fun h => ?_, fun h => ?_⟩, fun h => absurd (nI_le (Nat.le_refl _) (by omega)) h⟩))
    · rw [if_pos h] at H; exact H
    · rw [if_neg h] at H; exact H
  · intro k hk ih f
    have hd : clS w t (k + 1) = if (her w k && (kno w k t && !decide (lf w t = 0))) && clB (itsN w k t) (clS w t k) then (some k, itsN w k t) else clS w t k := rfl
    have hl := clS_le m.2.1 (t := t) k
    have hi := its_le m.2.1 (p := k) (t := t)
    have hlt := fun b => clS_lt (w := w) (t := t) (n := k) (b := b)
    rw [hd, nI_succ] at ih
    generalize clS w t k = s at *
    have no : ∀ f, ((her w k && (kno w k t && !decide (lf w t = 0))) && clB (itsN w k t) s) = false → WW g i_Mo_call 0 Φ 0 0 28 [(0, .ref 140), (1, .int (nI t)), (2, .int d), (3, .int (ov s.1)), (4, .int (nI s.2)), (5, .int (nI k + 1))] [] (sRI μ 149 f) := fun f h => by
      rw [if_neg (by rw [h]; decide)] at ih; exact ih f
    have mf := MW_149 m f
    refine v_Mo_call_28 (m_pe mf (oI ⟨fun h => absurd h (nI_ge hk (by omega)), fun _ => m_her mf (by omega) (oI ⟨fun h1 => no f (by rw [b2i_0.mp h1]; rfl), fun h1 => m_kn mf (by omega) (by omega) (oI ⟨fun h2 => no f (by rw [b2i_0.mp h2]; simp), fun h2 => m_lf mf (by omega) (oI ⟨fun h3 => ?_, fun h3 => no f ?_⟩)⟩)⟩)⟩))
    · have h3' : ¬ lf w t = 0 := fun e => h3 (by rw [e]; rfl)
      refine m_of (k := 3) mf (by omega) (by decide) (oI (m_mb mf (by omega) ht fun f' => oI ?_))
      rw [sRI_sRI, (wf_st m.2.1 (show k < 10 by omega)).1, i_100 (wf_st m.2.1 (show k < 10 by omega)).2]
      show (ov s.1 < 0 → WW g i_Mo_call 0 Φ 0 0 28 [(0, .ref 140), (1, .int (nI t)), (2, .int d), (3, .int (nI k)), (4, .int (nI (itsN w k t))), (5, .int (nI k + 1))] [] (sRI μ 149 f')) ∧ (¬ ov s.1 < 0 → (nI s.2 < nI (itsN w k t) → _) ∧ (¬ nI s.2 < nI (itsN w k t) → _))
      have yes : clB (itsN w k t) s = true → WW g i_Mo_call 0 Φ 0 0 28 [(0, .ref 140), (1, .int (nI t)), (2, .int d), (3, .int (nI k)), (4, .int (nI (itsN w k t))), (5, .int (nI k + 1))] [] (sRI μ 149 f') := fun h => by
        have := ih f'
        rw [h, b2i_n0.mp h1, b2i_n0.mp h2, decide_eq_false h3'] at this; exact this
      cases hs : s.1 with
      | none => exact ⟨fun _ => yes (by unfold clB; rw [hs]), fun h => absurd (show (-1 : Int32) < 0 by decide) h⟩
      | some b =>
        have := hlt b hs
        have hcl : clB (itsN w k t) s = decide (s.2 < itsN w k t) := by unfold clB; rw [hs]
        refine ⟨fun h => absurd h (nI_nlt (a := b) (b := 0) (by omega) (by omega)), fun _ => ⟨fun h => yes ?_, fun h => ?_⟩⟩
        · rw [nI_ltI (by omega) (by omega)] at h; rw [hcl, decide_eq_true h]
        · rw [nI_ltI (by omega) (by omega)] at h
          have := no f' (by rw [hcl, decide_eq_false h]; simp)
          rw [hs] at this; exact this
    · have : lf w t = 0 := nI_inj (by omega) (by omega) (show nI (lf w t) = nI 0 from h3)
      rw [this]; simp
theorem m_btw (m : MW μ w) {a b : Nat} (ha : a < pe w) (hb : b < pe w) (hn : ¬ b = a) (H : ∀ f, Φ (.inl (some (.int (bwT w a b (th w))))) (sRI μ 149 f)) : WW g i_Mo_between 0 Φ 0 0 59 [(0, .ref 140), (1, .int (nI a)), (2, .int (nI b)), (3, .int 0), (4, .int 0)] [] μ := by
  have p10 := (wf_pe m.2.1).2
  have t10 := (wf_th m.2.1).2
  have key := zup (P := fun t => ∀ f, WW g i_Mo_between 0 Φ 0 0 59 [(0, .ref 140), (1, .int (nI a)), (2, .int (nI b)), (3, .int (bwT w a b t)), (4, .int (nI t))] [] (sRI μ 149 f)) (th w) ?_ ?_
  · have := key (mI μ 149); rw [sRI_self] at this; exact this
  · intro f
    exact v_Mo_between_59 (m_th (MW_149 m f) (oI ⟨fun _ => H f, fun h => absurd (nI_le (Nat.le_refl _) (by omega)) h⟩))
  · intro t ht ih f
    have w6 := (wf_wo m.2.1 (show t < 10 by omega)).2.1
    have hd : bwT w a b (t + 1) = bwQ w a b t (bwT w a b t) (wo w t) := rfl
    rw [hd] at ih
    generalize bwT w a b t = s at *
    refine v_Mo_between_59 (m_th (MW_149 m f) (oI ⟨fun h => absurd h (nI_ge ht (by omega)), fun _ => ?_⟩))
    refine zup (P := fun q => ∀ f, WW g i_Mo_between 0 Φ 0 0 71 [(0, .ref 140), (1, .int (nI a)), (2, .int (nI b)), (3, .int (bwQ w a b t s q)), (4, .int (nI t)), (5, .int (nI q))] [] (sRI μ 149 f)) (wo w t) ?_ ?_ f
    · intro f
      refine v_Mo_between_71 (m_wo (MW_149 m f) (by omega) (oI ⟨fun _ => ?_, fun h => absurd (nI_le (Nat.le_refl _) (by omega)) h⟩))
      rw [← nI_succ]; exact ih f
    · intro q hq ihq f
      have hdq : bwQ w a b t s (q + 1) = bwQ w a b t s q ||| bwV w a b t q := rfl
      rw [hdq, nI_succ] at ihq
      have mf := MW_149 m f
      refine v_Mo_between_71 (m_wo mf (by omega) (oI ⟨fun h => absurd h (nI_ge hq (by omega)), fun _ => m_can mf (by omega) (by omega) (oI ⟨fun h => ⟨fun h2 => absurd h2 (by decide), fun _ => ?_⟩, fun h => m_so (oI (m_tk mf ht (by omega) (by omega) (by omega) fun f' => oI ?_))⟩)⟩))
      · have := ihq f
        unfold bwV at this
        rw [b2i_0.mp h, if_neg (by decide)] at this; exact this
      · rw [sRI_sRI]
        have := ihq f'
        unfold bwV at this
        rw [if_pos (b2i_n0.mp h)] at this
        have e0 : tk w a t q b (kno w b t) = tk0 w a t q b := by unfold tk0; rw [if_neg hn]
        rw [e0]
        cases hz : tk0 w a t q b with
        | none => rw [hz] at this; exact ⟨fun h2 => absurd (show (0 : Int32) ≤ -1 from h2) (by decide), fun _ => this⟩
        | some k =>
          have hk : k < th w := by rw [← e0] at hz; exact tk_lt (by omega) hz
          rw [hz] at this; exact ⟨fun _ => this, fun h2 => absurd (nI_pos' (n := k) (by omega)) h2⟩
theorem m_tkb (m : MW μ w) {who t q a : Nat} (ht : t < th w) (hq : q < 6) (hw : who < 10) (ha : a < 10) (H : ∀ f, Φ (.inl (some (.int (nI (ecn w who t q a))))) (sRI μ 149 f)) :
    Spec g i_Mo_takenBy 0 [.ref 140, .int (nI (6 * t + q)), .int (nI who), .int (nI a)] μ Φ := by
  have p10 := (wf_pe m.2.1).2
  have t10 := (wf_th m.2.1).2
  refine spi o_Mo_takenBy rfl (v_Mo_takenBy_0 ?_)
  have key := zup (P := fun k => ∀ f, WW g i_Mo_takenBy 0 Φ 0 0 6 [(0, .ref 140), (1, .int (nI (6 * t + q))), (2, .int (nI who)), (3, .int (nI a)), (4, .int (nI (ct (fun p => decide (tk0 w who t q p = some a)) k))), (5, .int (nI k))] [] (sRI μ 149 f)) (pe w) ?_ ?_
  · have := key (mI μ 149); rw [sRI_self] at this; exact this
  · intro f
    exact v_Mo_takenBy_6 (m_pe (MW_149 m f) (oI ⟨fun _ => H f, fun h => absurd (nI_le (Nat.le_refl _) (by omega)) h⟩))
  · intro k hk ih f
    rw [nI_succ] at ih
    have no : ∀ f, ¬ tk0 w who t q k = some a → WW g i_Mo_takenBy 0 Φ 0 0 6 [(0, .ref 140), (1, .int (nI (6 * t + q))), (2, .int (nI who)), (3, .int (nI a)), (4, .int (nI (ct (fun p => decide (tk0 w who t q p = some a)) k) + 0)), (5, .int (nI k + 1))] [] (sRI μ 149 f) := fun f h => by
      have := ih f
      rw [ct_f (by simp [h])] at this
      rw [i_a0]; exact this
    have mf := MW_149 m f
    refine v_Mo_takenBy_6 (m_pe mf (oI ⟨fun h => absurd h (nI_ge hk (by omega)), fun _ => ⟨fun h => no f ?_, fun h => m_tk mf ht hq hw (by omega) fun f' => oI ?_⟩⟩))
    · have : k = who := nI_inj (by omega) (by omega) h
      unfold tk0; rw [if_pos this]; simp
    · rw [sRI_sRI]
      have hkw : ¬ k = who := fun e => h (by rw [e])
      have e0 : tk w who t q k (kno w k t) = tk0 w who t q k := by unfold tk0; rw [if_neg hkw]
      rw [e0]
      refine ⟨fun h2 => no f' fun e => h2 (by rw [e]; rfl), fun h2 => ?_⟩
      have hz : tk0 w who t q k = some a := by
        cases hz : tk0 w who t q k with
        | none => rw [hz] at h2; exact absurd h2.symm fun e => nI_pos (n := a) (by omega) (by rw [show nI a = -1 from e]; decide)
        | some b =>
          rw [hz] at h2
          have hb : b < th w := by rw [← e0] at hz; exact tk_lt (by omega) hz
          rw [nI_inj (by omega) (by omega) (show nI b = nI a from h2)]
      have := ih f'
      rw [ct_t (by simp [hz]), nI_succ] at this
      exact this
theorem ecS_le (h : WFs w) {who t q : Nat} : ∀ n, (ecS w who t q n).2.2 ≤ pe w := by
  intro n
  induction n with
  | zero => exact Nat.zero_le _
  | succ n ih =>
    show (if (ecS w who t q n).2.2 < ecn w who t q n then (some n, ecn w who t q n) else (ecS w who t q n).2).2 ≤ _
    split
    · exact ct_le _ _
    · exact ih
theorem m_ech (m : MW μ w) {who t q : Nat} {d : Int32} (hw : who < 10) (ht : t < th w) (hq : q < 6) (H : ∀ f, Φ (.inl (some (.int (if d = 0 then nI (ecS w who t q (th w)).1 else ov (ecS w who t q (th w)).2.1)))) (sRI μ 149 f)) :
    WW g i_Mo_echo 0 Φ 0 0 49 [(0, .ref 140), (1, .int (nI who)), (2, .int (nI t)), (3, .int (nI q)), (4, .int d), (5, .int 0), (6, .int (-1)), (7, .int 0), (8, .int 0)] [] μ := by
  have p10 := (wf_pe m.2.1).2
  have t10 := (wf_th m.2.1).2
  have key := zup (P := fun k => ∀ f, WW g i_Mo_echo 0 Φ 0 0 49 [(0, .ref 140), (1, .int (nI who)), (2, .int (nI t)), (3, .int (nI q)), (4, .int d), (5, .int (nI (ecS w who t q k).1)), (6, .int (ov (ecS w who t q k).2.1)), (7, .int (nI (ecS w who t q k).2.2)), (8, .int (nI k))] [] (sRI μ 149 f)) (th w) ?_ ?_
  · have := key (mI μ 149); rw [sRI_self] at this; exact this
  · intro f
    have H := H f
    refine v_Mo_echo_49 (m_th (MW_149 m f) (oI ⟨fun _ => ⟨fun h => ?_, fun h => ?_⟩, fun h => absurd (nI_le (Nat.le_refl _) (by omega)) h⟩))
    · rw [if_pos h] at H; exact H
    · rw [if_neg h] at H; exact H
  · intro k hk ih f
    have hd : ecS w who t q (k + 1) = ((ecS w who t q k).1 + (if 0 < ecn w who t q k then 1 else 0), if (ecS w who t q k).2.2 < ecn w who t q k then (some k, ecn w who t q k) else (ecS w who t q k).2) := rfl
    have hl := ecS_le m.2.1 (who := who) (t := t) (q := q) k
    have hc : ecn w who t q k ≤ pe w := ct_le _ _
    rw [hd, nI_succ] at ih
    generalize ecS w who t q k = s at *
    refine v_Mo_echo_49 (m_th (MW_149 m f) (oI ⟨fun h => absurd h (nI_ge hk (by omega)), fun _ => m_so (oI (m_tkb (MW_149 m f) ht hq hw (by omega) fun f' => oI ?_))⟩))
    rw [sRI_sRI]
    have ih := ih f'
    have e1 : (nI (ecn w who t q k) ≤ 0) ↔ ¬ 0 < ecn w who t q k := by
      rw [show (0 : Int32) = nI 0 from rfl, nI_leI (by omega) (by omega)]; omega
    rw [e1, nI_ltI (by omega) (by omega)]
    refine ⟨fun h => ⟨fun h2 => by omega, fun h2 => ?_⟩, fun h => ⟨fun h2 => ?_, fun h2 => ?_⟩⟩
    · rw [if_neg h, if_neg h2] at ih; rw [i_a0]; exact ih
    · rw [if_pos (by omega), if_pos h2, nI_succ] at ih; exact ih
    · rw [if_pos (by omega), if_neg h2, nI_succ] at ih; exact ih
theorem m_cso (m : MW μ w) {who t q : Nat} (ht : t < th w) (hq : q < 6) (hw : who < 10) (H : ∀ f, Φ (.inl (some (.int (b2i (cso w (fun p => mI μ 147 p &&& 255) who t q))))) (sRI μ 149 f)) :
    Spec g i_Mo_comesSo 0 [.ref 140, .int (nI (6 * t + q)), .int (nI who)] μ Φ := by
  have p10 := (wf_pe m.2.1).2
  have t10 := (wf_th m.2.1).2
  refine spi o_Mo_comesSo rfl (v_Mo_comesSo_0 ?_)
  have key := zup (P := fun k => ∀ f, (∀ p, p < k → ¬ p = who → mI μ 147 p &&& 255 = tld (tk0 w who t q p)) → WW g i_Mo_comesSo 0 Φ 0 0 5 [(0, .ref 140), (1, .int (nI (6 * t + q))), (2, .int (nI who)), (3, .int 1), (4, .int (nI k))] [] (sRI μ 149 f)) (pe w) ?_ ?_
  · have := key (mI μ 149) fun p h => absurd h (Nat.not_lt_zero _)
    rw [sRI_self] at this; exact this
  · intro f hall
    have H := H f
    rw [show cso w (fun p => mI μ 147 p &&& 255) who t q = true from decide_eq_true hall] at H
    exact v_Mo_comesSo_5 (m_pe (MW_149 m f) (oI ⟨fun _ => ⟨Or.inr rfl, H⟩, fun h => absurd (nI_le (Nat.le_refl _) (by omega)) h⟩))
  · intro k hk ih f hall
    have mf := MW_149 m f
    have yes : ∀ f, (¬ k = who → mI μ 147 k &&& 255 = tld (tk0 w who t q k)) → WW g i_Mo_comesSo 0 Φ 0 0 5 [(0, .ref 140), (1, .int (nI (6 * t + q))), (2, .int (nI who)), (3, .int 1), (4, .int (nI k + 1))] [] (sRI μ 149 f) := fun f hy => by
      rw [← nI_succ]
      refine ih f fun p hp hn => ?_
      by_cases q1 : p = k
      · rw [q1] at hn ⊢; exact hy hn
      · exact hall p (by omega) hn
    have no : ∀ f x, ¬ k = who → ¬ mI μ 147 k &&& 255 = tld (tk0 w who t q k) → WW g i_Mo_comesSo 0 Φ 0 0 5 [(0, .ref 140), (1, .int (nI (6 * t + q))), (2, .int (nI who)), (3, .int 0), (4, .int x)] [] (sRI μ 149 f) := fun f x hn hne => by
      have H := H f
      rw [show cso w (fun p => mI μ 147 p &&& 255) who t q = false from decide_eq_false fun h => hne (h k hk hn)] at H
      exact v_Mo_comesSo_5 (m_pe (MW_149 m f) (oI ⟨fun _ => ⟨Or.inl rfl, H⟩, fun _ => ⟨fun _ => ⟨Or.inl rfl, H⟩, fun h => absurd rfl h⟩⟩))
    refine v_Mo_comesSo_5 (m_pe mf (oI ⟨fun h => absurd h (nI_ge hk (by omega)), fun _ => ⟨fun h => absurd h (by decide), fun _ => ⟨fun h => m_tk mf ht hq hw (by omega) fun f' => oI ⟨fun h2 => absurd h2 h, fun _ => ⟨vp_in_nI (by omega) (by decide), ?_⟩⟩, fun h => ⟨fun _ => yes f fun hn => absurd (nI_inj (by omega) (by omega) h) hn, fun h2 => absurd h h2⟩⟩⟩⟩))
    rw [sRI_sRI, rI_RI, if_neg (by decide), nx_nI (by omega)]
    have hkw : ¬ k = who := fun e => h (by rw [e])
    have e0 : tk w who t q k (kno w k t) = tk0 w who t q k := by unfold tk0; rw [if_neg hkw]
    rw [e0]
    cases hz : tk0 w who t q k with
    | none =>
      refine ⟨fun h2 => absurd (show (0 : Int32) ≤ -1 from h2) (by decide), fun _ => ⟨fun h2 => no f' _ hkw (by rw [hz]; exact h2), fun h2 => yes f' fun _ => by rw [hz]; exact h2⟩⟩
    | some b =>
      have hb : b < th w := by rw [← e0] at hz; exact tk_lt (by omega) hz
      exact ⟨fun _ => ⟨fun h2 => no f' _ hkw (by rw [hz]; exact h2), fun h2 => yes f' fun _ => by rw [hz]; exact h2⟩, fun h2 => absurd (nI_pos' (n := b) (by omega)) h2⟩
end ML
