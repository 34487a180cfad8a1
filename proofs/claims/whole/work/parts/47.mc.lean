/-! contracts of the reference: what follows, sets and sums -/
def zM (k j : Nat) : Bool := Nat.ble 149 k && Nat.ble k 153
theorem zM_scr {μ μ' : Mem} (e : Lz zM μ' = Lz zM μ) : Lv μ' = Lv μ := Lz_up (fun k j h => by
  unfold zM at h; simp only [Bool.and_eq_true] at h
  have h1 : Nat.ble 148 k = true := Nat.ble_eq_true_of_le (Nat.le_trans (by decide) (Nat.le_of_ble_eq_true h.1))
  unfold scr; rw [h1]; simp) e
theorem zM_149 {μ : Mem} {f : Nat → Int32} : Lz zM (sRI μ 149 f) = Lz zM μ := Lz_RI fun _ => rfl
theorem andno (x a b : Int32) : (x &&& (a ^^^ (-1))) &&& (b ^^^ (-1)) = x &&& ((a ||| b) ^^^ (-1)) := by
  apply b_ext; intro i hi
  rw [b_and, b_and, b_and, b_not hi, b_not hi, b_not hi, b_or]
  cases bt x i <;> cases bt a i <;> cases bt b i <;> rfl
theorem andself (x : Int32) : x &&& x = x := by apply b_ext; intro i hi; rw [b_and]; cases bt x i <;> rfl
theorem and_m1 (x : Int32) : x &&& ((0 : Int32) ^^^ (-1)) = x := by apply b_ext; intro i hi; rw [b_and, b_not hi, b_0]; cases bt x i <;> rfl
def rgt (w : WD) (t p q : Nat) : Int32 := msk (pe w) (hrf w p t q true) &&& (msk (pe w) (fun r => kno w r t) ^^^ (-1))
def tch (w : WD) (t p : Nat) : Int32 := orf (fun q => rgt w t p q) (wo w t)
def rsp (T : Nat → Int32) (A : Int32) : Nat → Int32 → Int32
  | 0, x => x
  | n + 1, x => if bt (rsp T A n x &&& A) n then rsp T A n x ||| (T n &&& A) else rsp T A n x ||| 0
def mbN (w : WD) (p t : Nat) : Nat → Nat
  | 0 => 0
  | q + 1 => if sai w t q then mbN w p t q else max (mbN w p t q) (ct (fun r => hrf w p t q true r && !kno w r t) (pe w))
section MC
variable {g : Gl} {Φ : Out → Mem → Prop} {μ : Mem} {w : WD}
theorem m_clo (m : MW μ w) {x : Int32} (hx : ∀ i, 10 ≤ i → i < 32 → bt x i = false) (H : Φ (.inl (some (.int (clo w 10 x)))) μ) : Spec g i_Mo_closes 0 [.ref 140, .int x] μ Φ := by
  have r12 := (wf_ru m.2.1).2
  have t10 := (wf_th m.2.1).2
  have h11 : clo w 11 x = clo w 10 x := clo_10 m.2.1 hx
  have inner : ∀ y, WW g i_Mo_closes 0 Φ 0 0 4 [(0, .ref 140), (2, .int (rnd w (ru w) y)), (3, .int y)] [] μ → WW g i_Mo_closes 0 Φ 0 0 14 [(0, .ref 140), (2, .int y), (3, .int y), (4, .int 0)] [] μ := by
    intro y hy
    refine zup (P := fun k => WW g i_Mo_closes 0 Φ 0 0 14 [(0, .ref 140), (2, .int (rnd w k y)), (3, .int y), (4, .int (nI k))] [] μ) (ru w) ?_ ?_
    · exact v_Mo_closes_14 (m_ru m (oI ⟨fun _ => hy, fun h => absurd (nI_le (Nat.le_refl _) (by omega)) h⟩))
    · intro k hk ih2
      have f0 := wf_rr m.2.1 hk (j := 0) (by decide)
      have f1 := wf_rr m.2.1 hk (j := 1) (by decide)
      have f2 := wf_rr m.2.1 hk (j := 2) (by decide)
      have no : (bt (rnd w k y) (rr w k 0) && bt (rnd w k y) (rr w k 1)) = false → WW g i_Mo_closes 0 Φ 0 0 14 [(0, .ref 140), (2, .int (rnd w k y ||| 0)), (3, .int y), (4, .int (nI k + 1))] [] μ := by
        intro e
        rw [show rnd w (k + 1) y = rnd w k y ||| 0 by show rst w k _ = _; unfold rst; rw [if_neg (by rw [e]; decide)], nI_succ] at ih2
        exact ih2
      refine v_Mo_closes_14 (m_ru m (oI ⟨fun h => absurd h (nI_ge hk (by omega)), fun _ => m_rul (j := 0) m (by omega) (by decide) (oI ?_)⟩))
      rw [f0.1]
      refine m_has (by omega) (oI ⟨fun h => no (by rw [b2i_0.mp h]; rfl), fun h => m_rul (j := 1) m (by omega) (by decide) (oI ?_)⟩)
      rw [f1.1]
      refine m_has (by omega) (oI ⟨fun h2 => no (by rw [b2i_0.mp h2]; simp), fun h2 => m_rul (j := 2) m (by omega) (by decide) (oI ?_)⟩)
      rw [f2.1]
      rw [show rnd w (k + 1) y = rnd w k y ||| ((1 : Int32) <<< (nI (rr w k 2) &&& 31)) by show rst w k _ = _; unfold rst; rw [if_pos (by rw [b2i_n0.mp h, b2i_n0.mp h2]; rfl)], nI_succ] at ih2
      exact ih2
  have key := zup (P := fun r => WW g i_Mo_closes 0 Φ 0 0 4 [(0, .ref 140), (2, .int (clo w (r + 1) x)), (3, .int (clo w r x))] [] μ) 10 ?_ ?_
  · refine spi o_Mo_closes rfl (v_Mo_closes_0 (v_Mo_closes_4 ⟨fun h => ?_, fun _ => inner x key⟩))
    have : bt x 31 = false := hx 31 (by decide) (by decide)
    rw [h, b_m1 31 (by decide)] at this; cases this
  · refine v_Mo_closes_4 ⟨fun _ => ?_, fun h => absurd h11 h⟩
    rw [h11]; exact H
  · intro r hr ih
    refine v_Mo_closes_4 ⟨fun h => ?_, fun _ => inner _ ih⟩
    rw [h, clo_eq m.2.1 hx h]; exact H
theorem m_kh (m : MW μ w) (H : Φ (.inl (some (.int (orf (fun p => if her w p then pf w p 4 else 0) (pe w))))) μ) : Spec g i_Mo_knownHere 0 [.ref 140] μ Φ := by
  have p10 := (wf_pe m.2.1).2
  refine spi o_Mo_knownHere rfl (v_Mo_knownHere_0 (zup (P := fun k => WW g i_Mo_knownHere 0 Φ 0 0 4 [(0, .ref 140), (1, .int (orf (fun p => if her w p then pf w p 4 else 0) k)), (2, .int (nI k))] [] μ) (pe w) ?_ ?_))
  · exact v_Mo_knownHere_4 (m_pe m (oI ⟨fun _ => H, fun h => absurd (nI_le (Nat.le_refl _) (by omega)) h⟩))
  · intro k hk ih
    refine v_Mo_knownHere_4 (m_pe m (oI ⟨fun h => absurd h (nI_ge hk (by omega)), fun _ => m_her m (by omega) (oI ⟨fun h => ?_, fun h => m_of (k := 4) m (by omega) (by decide) (oI ?_)⟩)⟩))
    · rw [orf_f (c := her w) (f := fun p => pf w p 4) (b2i_0.mp h), nI_succ] at ih; exact ih
    · rw [orf_t (c := her w) (f := fun p => pf w p 4) (b2i_n0.mp h), nI_succ] at ih; exact ih
theorem m_sil (m : MW μ w) (H : Φ (.inl (some (.int (msk (th w) (fun t => decide (lf w t = 0)))))) μ) : Spec g i_Mo_silentThings 0 [.ref 140] μ Φ := by
  have t10 := (wf_th m.2.1).2
  refine spi o_Mo_silentThings rfl (v_Mo_silentThings_0 (zup (P := fun k => WW g i_Mo_silentThings 0 Φ 0 0 4 [(0, .ref 140), (1, .int (msk k (fun t => decide (lf w t = 0)))), (2, .int (nI k))] [] μ) (th w) ?_ ?_))
  · exact v_Mo_silentThings_4 (m_th m (oI ⟨fun _ => H, fun h => absurd (nI_le (Nat.le_refl _) (by omega)) h⟩))
  · intro k hk ih
    have l6 := lf_le w k
    refine v_Mo_silentThings_4 (m_th m (oI ⟨fun h => absurd h (nI_ge hk (by omega)), fun _ => m_lf m (by omega) (oI ⟨fun h => ?_, fun h => ?_⟩)⟩))
    · have : ¬ lf w k = 0 := fun q => h (by rw [q]; rfl)
      rw [msk_f (by simp [this]), nI_succ] at ih; exact ih
    · have : lf w k = 0 := nI_inj (by omega) (by decide) h
      rw [msk_t (by simp [this]), nI_succ] at ih; exact ih
theorem m_lin (m : MW μ w) {x : Int32} (H : Φ (.inl (some (.int (nI (sm (fun t => if bt x t then lf w t else 0) (th w)))))) μ) : Spec g i_Mo_leftIn 0 [.ref 140, .int x] μ Φ := by
  have t10 := (wf_th m.2.1).2
  refine spi o_Mo_leftIn rfl (v_Mo_leftIn_0 (zup (P := fun k => WW g i_Mo_leftIn 0 Φ 0 0 4 [(0, .ref 140), (1, .int x), (2, .int (nI (sm (fun t => if bt x t then lf w t else 0) k))), (3, .int (nI k))] [] μ) (th w) ?_ ?_))
  · exact v_Mo_leftIn_4 (m_th m (oI ⟨fun _ => H, fun h => absurd (nI_le (Nat.le_refl _) (by omega)) h⟩))
  · intro k hk ih
    refine v_Mo_leftIn_4 (m_th m (oI ⟨fun h => absurd h (nI_ge hk (by omega)), fun _ => m_has (by omega) (oI ⟨fun h => ?_, fun h => m_lf m (by omega) (oI ?_)⟩)⟩))
    · rw [show sm (fun t => if bt x t then lf w t else 0) (k + 1) = sm (fun t => if bt x t then lf w t else 0) k + 0 by show _ + (if _ then _ else _) = _; rw [if_neg (by rw [b2i_0.mp h]; decide)], ← nI_add, nI_succ] at ih
      exact ih
    · rw [show sm (fun t => if bt x t then lf w t else 0) (k + 1) = sm (fun t => if bt x t then lf w t else 0) k + lf w k by show _ + (if _ then _ else _) = _; rw [if_pos (b2i_n0.mp h)], ← nI_add, nI_succ] at ih
      exact ih
theorem m_los (m : MW μ w) {p : Nat} (hp : p < pe w) (H : Φ (.inl (some (.int (pf w p 4 &&& (orf (fun o => if (!decide (o = p) && her w o) then pf w o 4 else 0) (pe w) ^^^ (-1)))))) μ) : Spec g i_Mo_lostBy 0 [.ref 140, .int (nI p)] μ Φ := by
  have p10 := (wf_pe m.2.1).2
  refine spi o_Mo_lostBy rfl (v_Mo_lostBy_0 (m_of (k := 4) m (by omega) (by decide) (oI ?_)))
  have key := zup (P := fun k => WW g i_Mo_lostBy 0 Φ 0 0 9 [(0, .ref 140), (1, .int (nI p)), (2, .int (pf w p 4 &&& (orf (fun o => if (!decide (o = p) && her w o) then pf w o 4 else 0) k ^^^ (-1)))), (3, .int (nI k))] [] μ) (pe w) ?_ ?_
  · rw [show pf w p 4 &&& (orf (fun o => if (!decide (o = p) && her w o) then pf w o 4 else 0) 0 ^^^ (-1)) = pf w p 4 from and_m1 _] at key
    exact key
  · exact v_Mo_lostBy_9 (m_pe m (oI ⟨fun _ => H, fun h => absurd (nI_le (Nat.le_refl _) (by omega)) h⟩))
  · intro k hk ih
    refine v_Mo_lostBy_9 (m_pe m (oI ⟨fun h => absurd h (nI_ge hk (by omega)), fun _ => ⟨fun h => ?_, fun h => m_her m (by omega) (oI ⟨fun h2 => m_of (k := 4) m (by omega) (by decide) (oI ?_), fun h2 => ?_⟩)⟩⟩))
    · have e : k = p := nI_inj (by omega) (by omega) h
      rw [orf_f (c := fun o => !decide (o = p) && her w o) (f := fun o => pf w o 4) (by simp [e]), or0, nI_succ] at ih
      rw [andself]; exact ih
    · have e : ¬ k = p := fun q => h (by rw [q])
      rw [orf_t (c := fun o => !decide (o = p) && her w o) (f := fun o => pf w o 4) (by simp [e, b2i_n0.mp h2]), nI_succ, ← andno] at ih
      exact ih
    · rw [orf_f (c := fun o => !decide (o = p) && her w o) (f := fun o => pf w o 4) (by rw [b2i_0.mp h2]; simp), or0, nI_succ] at ih
      rw [andself]; exact ih
theorem m_alo (m : MW μ w) {p q : Nat} (hp : p < 10) (hq : q < 10) (H : Φ (.inl (some (.int (msk (th w) (fun _ => true) &&& ((pf w p 4 ^^^ pf w q 4) ^^^ (-1)))))) μ) : Spec g i_Mo_alikeOf 0 [.ref 140, .int (nI p), .int (nI q)] μ Φ := by
  have t10 := (wf_th m.2.1).2
  refine spi o_Mo_alikeOf rfl (v_Mo_alikeOf_0 (m_th m (oI (m_of (k := 4) m hp (by decide) (oI (m_of (k := 4) m hq (by decide) (oI ?_)))))))
  rw [msk_full (by omega)]; exact H
theorem m_grp (m : MW μ w) {p : Nat} (hp : p < 10) (H : Φ (.inl (some (.int (msk (pe w) (fun o => decide (pf w o 4 = pf w p 4)))))) μ) : Spec g i_Mo_groupOf 0 [.ref 140, .int (nI p)] μ Φ := by
  have p10 := (wf_pe m.2.1).2
  refine spi o_Mo_groupOf rfl (v_Mo_groupOf_0 (zup (P := fun k => WW g i_Mo_groupOf 0 Φ 0 0 4 [(0, .ref 140), (1, .int (nI p)), (2, .int (msk k (fun o => decide (pf w o 4 = pf w p 4)))), (3, .int (nI k))] [] μ) (pe w) ?_ ?_))
  · exact v_Mo_groupOf_4 (m_pe m (oI ⟨fun _ => H, fun h => absurd (nI_le (Nat.le_refl _) (by omega)) h⟩))
  · intro k hk ih
    refine v_Mo_groupOf_4 (m_pe m (oI ⟨fun h => absurd h (nI_ge hk (by omega)), fun _ => m_of (k := 4) m (by omega) (by decide) (oI (m_of (k := 4) m hp (by decide) (oI ⟨fun h => ?_, fun h => ?_⟩)))⟩))
    · rw [msk_f (by simp [h]), nI_succ] at ih; exact ih
    · rw [msk_t (by simp [h]), nI_succ] at ih; exact ih
theorem m_mar (m : MW μ w) {p q : Nat} (hp : p < 10) (hq : q < 10) (H : Φ (.inl (some (.int (((nI (sm (fun t => if bt (pf w p 4 &&& (pf w q 4 ^^^ (-1))) t then lf w t else 0) (th w)) + ((nI (sm (fun t => if bt (pf w p 4 &&& pf w q 4) t then lf w t else 0) (th w)) + 1) / 2)) - nI (sm (fun t => if bt (pf w q 4 &&& (pf w p 4 ^^^ (-1))) t then lf w t else 0) (th w))) - (nI (sm (fun t => if bt (pf w p 4 &&& pf w q 4) t then lf w t else 0) (th w)) / 2))))) μ) : Spec g i_Mo_marginOf 0 [.ref 140, .int (nI p), .int (nI q)] μ Φ :=
  by
  refine spi o_Mo_marginOf rfl (v_Mo_marginOf_0 (m_of (k := 4) m hp (by decide) (oI ?_)))
  refine m_of (k := 4) m hq (by decide) (oI (m_lin m (oI ?_)))
  refine m_of (k := 4) m hp (by decide) (oI (m_of (k := 4) m hq (by decide) (oI (m_lin m (oI ⟨by decide, ?_⟩)))))
  exact m_of (k := 4) m hq (by decide) (oI (m_of (k := 4) m hp (by decide) (oI (m_lin m (oI ⟨by decide, H⟩)))))
theorem m_ns (m : MW μ w) {t : Nat} (ht : t < 10) (H : Φ (.inl (some (.int (b2i (decide (lf w t = wo w t)))))) μ) : Spec g i_Mo_nothingSaid 0 [.ref 140, .int (nI t)] μ Φ := by
  have l6 := lf_le w t
  have w6 := (wf_wo m.2.1 ht).2.1
  refine spi o_Mo_nothingSaid rfl (v_Mo_nothingSaid_0 (m_lf m ht (oI (m_wo m ht (oI ⟨fun h => ?_, fun h => ?_⟩)))))
  · rw [b2i_f (by simp; exact fun q => h (by rw [q]))] at H; exact z01 H
  · rw [b2i_t (by simp; exact nI_inj (by omega) (by omega) h)] at H; exact z11 H
theorem m_ra {p q : Nat} (H : Φ (.inl (some (.int (nI (6 * p + q))))) μ) : Spec g i_Mo_rightAt 0 [.int (nI p), .int (nI q)] μ Φ := by
  refine spi o_Mo_rightAt rfl (v_Mo_rightAt_0 ?_)
  rw [show (6 : Int32) = nI 6 from rfl, pk_mul, nI_add]; exact H
theorem m_lay (m : MW μ w) {t : Nat} (ht : t < th w) (H : ∀ μ', Lz zM μ' = Lz zM μ → (∀ p, p < pe w → ∀ q, q < wo w t → mI μ' 151 (6 * p + q) = rgt w t p q) → Φ (.inl none) μ') : Spec g i_Mo_laysRight 0 [.ref 140, .int (nI t)] μ Φ := by
  have t10 := (wf_th m.2.1).2
  have p10 := (wf_pe m.2.1).2
  have w6 := (wf_wo m.2.1 (show t < 10 by omega)).2.1
  have key := zup (P := fun k => ∀ μ', Lz zM μ' = Lz zM μ → (∀ p, p < k → ∀ q, q < wo w t → mI μ' 151 (6 * p + q) = rgt w t p q) → WW g i_Mo_laysRight 0 Φ 0 0 2 [(0, .ref 140), (1, .int (nI t)), (2, .int (nI k))] [] μ') (pe w) ?_ ?_
  · exact spi o_Mo_laysRight rfl (v_Mo_laysRight_0 (key μ rfl fun p h => absurd h (Nat.not_lt_zero _)))
  · intro μ' e hr
    exact v_Mo_laysRight_2 (m_pe (m.lv (zM_scr e)) (oI ⟨fun _ => H μ' e hr, fun h => absurd (nI_le (Nat.le_refl _) (by omega)) h⟩))
  · intro k hk ih μ' e hr
    refine v_Mo_laysRight_2 (m_pe (m.lv (zM_scr e)) (oI ⟨fun h => absurd h (nI_ge hk (by omega)), fun _ => ?_⟩))
    refine zup (P := fun j => ∀ μ2, Lz zM μ2 = Lz zM μ → (∀ p, p < k → ∀ q, q < wo w t → mI μ2 151 (6 * p + q) = rgt w t p q) → (∀ q, q < j → mI μ2 151 (6 * k + q) = rgt w t k q) → WW g i_Mo_laysRight 0 Φ 0 0 12 [(0, .ref 140), (1, .int (nI t)), (2, .int (nI k)), (3, .int (nI j))] [] μ2) (wo w t) ?_ ?_ μ' e hr (fun q h => absurd h (Nat.not_lt_zero _))
    · intro μ2 e2 hr2 hk2
      refine v_Mo_laysRight_12 (m_wo (m.lv (zM_scr e2)) (by omega) (oI ⟨fun _ => ?_, fun h => absurd (nI_le (Nat.le_refl _) (by omega)) h⟩))
      rw [← nI_succ]
      refine ih μ2 e2 fun p hp q hq => ?_
      by_cases h : p = k
      · rw [h]; exact hk2 q hq
      · exact hr2 p (by omega) q hq
    · intro j hj ihj μ2 e2 hr2 hk2
      have m2 := m.lv (zM_scr e2)
      refine v_Mo_laysRight_12 (m_wo m2 (by omega) (oI ⟨fun h => absurd h (nI_ge hj (by omega)), fun _ => m_ra (oI (m_so (oI (m_hrs (right := true) m2 ht (by omega) (by omega) fun f => oI (m_knr (MW_149 m2 f) (by omega) (oI ⟨vp_in_nI (by omega) (by decide), ?_⟩))))))⟩))
      rw [← nI_succ, nx_nI (by omega)]
      refine ihj _ ((Lz_I rfl).trans (zM_149.trans e2)) ?_ ?_
      · intro p hp q hq
        rw [rI_I, if_pos rfl, upd_n (by omega)]; exact hr2 p hp q hq
      · intro q hq
        by_cases h : q = j
        · subst h; rw [rI_I, if_pos rfl, upd_s]; rfl
        · rw [rI_I, if_pos rfl, upd_n (by omega)]; exact hk2 q (by omega)
theorem m_tea (m : MW μ w) {t : Nat} (ht : t < th w) (H : ∀ μ', Lz zM μ' = Lz zM μ → (∀ p, p < pe w → mI μ' 153 p = tch w t p) → Φ (.inl none) μ') : Spec g i_Mo_laysTeaches 0 [.ref 140, .int (nI t)] μ Φ := by
  have t10 := (wf_th m.2.1).2
  have p10 := (wf_pe m.2.1).2
  have w6 := (wf_wo m.2.1 (show t < 10 by omega)).2.1
  refine spi o_Mo_laysTeaches rfl (v_Mo_laysTeaches_0 (m_lay m ht fun μ1 e1 hr => oV ?_))
  refine zup (P := fun k => ∀ μ', Lz zM μ' = Lz zM μ → mI μ' 151 = mI μ1 151 → (∀ p, p < k → mI μ' 153 p = tch w t p) → WW g i_Mo_laysTeaches 0 Φ 0 0 7 [(0, .ref 140), (1, .int (nI t)), (2, .int (nI k))] [] μ') (pe w) ?_ ?_ μ1 e1 rfl fun p h => absurd h (Nat.not_lt_zero _)
  · intro μ' e _ hT
    exact v_Mo_laysTeaches_7 (m_pe (m.lv (zM_scr e)) (oI ⟨fun _ => H μ' e hT, fun h => absurd (nI_le (Nat.le_refl _) (by omega)) h⟩))
  · intro k hk ih μ' e h151 hT
    refine v_Mo_laysTeaches_7 (m_pe (m.lv (zM_scr e)) (oI ⟨fun h => absurd h (nI_ge hk (by omega)), fun _ => ⟨vp_in_nI (by omega) (by decide), ?_⟩⟩))
    refine zup (P := fun j => ∀ μ2, Lz zM μ2 = Lz zM μ → mI μ2 151 = mI μ1 151 → (∀ p, p < k → mI μ2 153 p = tch w t p) → mI μ2 153 k = orf (fun q => rgt w t k q) j → WW g i_Mo_laysTeaches 0 Φ 0 0 24 [(0, .ref 140), (1, .int (nI t)), (2, .int (nI k)), (3, .int (nI j))] [] μ2) (wo w t) ?_ ?_ _ ((Lz_I rfl).trans e) ?_ ?_ ?_
    · intro μ2 e2 h2 hT2 hk2
      refine v_Mo_laysTeaches_24 (m_wo (m.lv (zM_scr e2)) (by omega) (oI ⟨fun _ => ?_, fun h => absurd (nI_le (Nat.le_refl _) (by omega)) h⟩))
      rw [← nI_succ]
      refine ih μ2 e2 h2 fun p hp => ?_
      by_cases h : p = k
      · rw [h]; exact hk2
      · exact hT2 p (by omega)
    · intro j hj ihj μ2 e2 h2 hT2 hk2
      refine v_Mo_laysTeaches_24 (m_wo (m.lv (zM_scr e2)) (by omega) (oI ⟨fun h => absurd h (nI_ge hj (by omega)), fun _ => ⟨vp_in_nI (by omega) (by decide), m_ra (oI ⟨vp_in_nI (by omega) (by decide), vp_in_nI (by omega) (by decide), ?_⟩)⟩⟩))
      rw [← nI_succ, nx_nI (show k < 2 ^ 31 by omega), nx_nI (show 6 * k + j < 2 ^ 31 by omega)]
      refine ihj _ ((Lz_I rfl).trans e2) ?_ ?_ ?_
      · rw [rI_I, if_neg (by decide)]; exact h2
      · intro p hp
        rw [rI_I, if_pos rfl, upd_n (by omega)]; exact hT2 p hp
      · rw [rI_I, if_pos rfl, upd_s, hk2, h2, hr k hk j hj]; rfl
    · rw [rI_I, if_neg (by decide)]; exact h151
    · intro p hp
      rw [rI_I, if_pos rfl, nx_nI (by omega), upd_n (by omega)]; exact hT p hp
    · rw [rI_I, if_pos rfl, nx_nI (by omega), upd_s]; rfl
theorem rsp_mono {T : Nat → Int32} {A : Int32} {n i : Nat} {b : Int32} (h : bt b i = true) : bt (rsp T A n b) i = true := by
  induction n with
  | zero => exact h
  | succ n ih => unfold rsp; split <;> rw [b_or, ih] <;> rfl
theorem rsp_hi {T : Nat → Int32} {A : Int32} {i : Nat} {x : Int32} (hA : bt A i = false) (hx : bt x i = false) : ∀ n, bt (rsp T A n x) i = false := by
  intro n
  induction n with
  | zero => exact hx
  | succ n ih =>
    unfold rsp; split
    · rw [b_or, b_and, ih, hA]; simp
    · rw [b_or, b_0, ih]; rfl
theorem m_spr (m : MW μ w) {T : Nat → Int32} (hT : ∀ p, p < pe w → mI μ 153 p = T p) {K A : Int32} (hK : ∀ i, 10 ≤ i → i < 32 → bt K i = false) (hA : ∀ i, 10 ≤ i → i < 32 → bt A i = false) (H : Φ (.inl (some (.int (it (rsp T A (pe w)) 10 K)))) μ) : Spec g i_Mo_spreads 0 [.ref 140, .int K, .int A] μ Φ := by
  have p10 := (wf_pe m.2.1).2
  have h11 : it (rsp T A (pe w)) 11 K = it (rsp T A (pe w)) 10 K := by
    refine it_10 (fun b i => rsp_mono) fun n => ?_
    induction n with
    | zero => exact hK
    | succ n ih => intro i h1 h2; exact rsp_hi (hA i h1 h2) (ih i h1 h2) _
  have inner : ∀ y, WW g i_Mo_spreads 0 Φ 0 0 5 [(0, .ref 140), (2, .int A), (3, .int (rsp T A (pe w) y)), (4, .int y)] [] μ → WW g i_Mo_spreads 0 Φ 0 0 17 [(0, .ref 140), (2, .int A), (3, .int y), (4, .int y), (5, .int 0)] [] μ := by
    intro y hy
    refine zup (P := fun k => WW g i_Mo_spreads 0 Φ 0 0 17 [(0, .ref 140), (2, .int A), (3, .int (rsp T A k y)), (4, .int y), (5, .int (nI k))] [] μ) (pe w) ?_ ?_
    · exact v_Mo_spreads_17 (m_pe m (oI ⟨fun _ => hy, fun h => absurd (nI_le (Nat.le_refl _) (by omega)) h⟩))
    · intro k hk ih2
      have hd : rsp T A (k + 1) y = if bt (rsp T A k y &&& A) k then rsp T A k y ||| (T k &&& A) else rsp T A k y ||| 0 := rfl
      refine v_Mo_spreads_17 (m_pe m (oI ⟨fun h => absurd h (nI_ge hk (by omega)), fun _ => m_has (by omega) (oI ⟨fun h => ?_, fun h => ⟨vp_in_nI (by omega) (by decide), ?_⟩⟩)⟩))
      · rw [hd, if_neg (by rw [b2i_0.mp h]; decide), nI_succ] at ih2; exact ih2
      · rw [hd, if_pos (b2i_n0.mp h), nI_succ] at ih2
        rw [nx_nI (by omega), hT k hk]; exact ih2
  have key := zup (P := fun r => WW g i_Mo_spreads 0 Φ 0 0 5 [(0, .ref 140), (2, .int A), (3, .int (it (rsp T A (pe w)) (r + 1) K)), (4, .int (it (rsp T A (pe w)) r K))] [] μ) 10 ?_ ?_
  · refine spi o_Mo_spreads rfl (v_Mo_spreads_0 (v_Mo_spreads_5 ⟨fun h => ?_, fun _ => inner K key⟩))
    have : bt K 31 = false := hK 31 (by decide) (by decide)
    rw [h, b_m1 31 (by decide)] at this; cases this
  · refine v_Mo_spreads_5 ⟨fun _ => ?_, fun h => absurd h11 h⟩
    rw [h11]; exact H
  · intro r hr ih
    refine v_Mo_spreads_5 ⟨fun h => ?_, fun _ => inner _ ih⟩
    rw [h, it_eq h11 h]; exact H
theorem mmax_nI {a b : Nat} (ha : a < 2 ^ 31) (hb : b < 2 ^ 31) : mmax (nI a) (nI b) = nI (max a b) := by
  unfold mmax
  split
  · rename_i h; rw [nI_ltI ha hb] at h; rw [Nat.max_eq_right (by omega)]
  · rename_i h; rw [nI_ltI ha hb] at h; rw [Nat.max_eq_left (by omega)]
theorem mmin_nI {a b : Nat} (ha : a < 2 ^ 31) (hb : b < 2 ^ 31) : mmin (nI a) (nI b) = nI (min a b) := by
  unfold mmin
  split
  · rename_i h; rw [nI_ltI hb ha] at h; rw [Nat.min_eq_right (by omega)]
  · rename_i h; rw [nI_ltI hb ha] at h; rw [Nat.min_eq_left (by omega)]
theorem mbN_le (w : WD) (p t : Nat) : ∀ n, mbN w p t n ≤ pe w := by
  intro n
  induction n with
  | zero => exact Nat.zero_le _
  | succ n ih =>
    unfold mbN; split
    · exact ih
    · exact Nat.max_le.mpr ⟨ih, ct_le _ _⟩
theorem msk_andn {n : Nat} (hn : n ≤ 31) {f h : Nat → Bool} : msk n f &&& (msk n h ^^^ (-1)) = msk n (fun i => f i && !h i) := by
  apply msk_ext (by omega); intro i hi
  rw [b_and, b_not hi, b_msk (by omega) hi, b_msk (by omega) hi]
  by_cases q : i < n <;> simp [q]
theorem m_mb (m : MW μ w) {p t : Nat} (hp : p < 10) (ht : t < th w) (H : ∀ f, Φ (.inl (some (.int (nI (mbN w p t (wo w t)))))) (sRI μ 149 f)) : Spec g i_Mo_mostBy 0 [.ref 140, .int (nI p), .int (nI t)] μ Φ := by
  have t10 := (wf_th m.2.1).2
  have p10 := (wf_pe m.2.1).2
  have w6 := (wf_wo m.2.1 (show t < 10 by omega)).2.1
  have key := zup (P := fun k => ∀ f, WW g i_Mo_mostBy 0 Φ 0 0 5 [(0, .ref 140), (1, .int (nI p)), (2, .int (nI t)), (3, .int (nI (mbN w p t k))), (4, .int (nI k))] [] (sRI μ 149 f)) (wo w t) ?_ ?_
  · have h0 := key (mI μ 149)
    rw [sRI_self] at h0
    exact spi o_Mo_mostBy rfl (v_Mo_mostBy_0 h0)
  · intro f
    exact v_Mo_mostBy_5 (m_wo (MW_149 m f) (by omega) (oI ⟨fun _ => H f, fun h => absurd (nI_le (Nat.le_refl _) (by omega)) h⟩))
  · intro k hk ih f
    have hd : mbN w p t (k + 1) = if sai w t k then mbN w p t k else max (mbN w p t k) (ct (fun r => hrf w p t k true r && !kno w r t) (pe w)) := rfl
    refine v_Mo_mostBy_5 (m_wo (MW_149 m f) (by omega) (oI ⟨fun h => absurd h (nI_ge hk (by omega)), fun _ => m_sd (MW_149 m f) (by omega) (oI ⟨fun h => ?_, fun h => m_so (oI (m_hrs (right := true) (MW_149 m f) ht (by omega) hp fun f' => oI ?_))⟩)⟩))
    · have hi := ih f
      rw [hd, if_pos (b2i_n0.mp h), nI_succ] at hi; exact hi
    · rw [sRI_sRI]
      refine m_knr (MW_149 m f') (by omega) (oI (c_bc (oI ?_)))
      have hi := ih f'
      have l1 := mbN_le w p t k
      have l2 := ct_le (fun r => hrf w p t k true r && !kno w r t) (pe w)
      rw [msk_andn (by omega), bc_msk p10, mmax_nI (by omega) (by omega), ← nI_succ]
      rw [hd, if_neg (by rw [b2i_0.mp h]; decide)] at hi; exact hi
theorem m_rch (m : MW μ w) {p t : Nat} (hp : p < 10) (ht : t < th w) (H : ∀ f, Φ (.inl (some (.int (orf (fun q => if (!sai w t q) then msk (pe w) (hrf w p t q true) else 0) (wo w t))))) (sRI μ 149 f)) : Spec g i_Mo_reached 0 [.ref 140, .int (nI p), .int (nI t)] μ Φ := by
  have t10 := (wf_th m.2.1).2
  have w6 := (wf_wo m.2.1 (show t < 10 by omega)).2.1
  have key := zup (P := fun k => ∀ f, WW g i_Mo_reached 0 Φ 0 0 5 [(0, .ref 140), (1, .int (nI p)), (2, .int (nI t)), (3, .int (orf (fun q => if (!sai w t q) then msk (pe w) (hrf w p t q true) else 0) k)), (4, .int (nI k))] [] (sRI μ 149 f)) (wo w t) ?_ ?_
  · have h0 := key (mI μ 149)
    rw [sRI_self] at h0
    exact spi o_Mo_reached rfl (v_Mo_reached_0 h0)
  · intro f
    exact v_Mo_reached_5 (m_wo (MW_149 m f) (by omega) (oI ⟨fun _ => H f, fun h => absurd (nI_le (Nat.le_refl _) (by omega)) h⟩))
  · intro k hk ih f
    refine v_Mo_reached_5 (m_wo (MW_149 m f) (by omega) (oI ⟨fun h => absurd h (nI_ge hk (by omega)), fun _ => m_sd (MW_149 m f) (by omega) (oI ⟨fun h => m_so (oI (m_hrs (right := true) (MW_149 m f) ht (by omega) hp fun f' => oI ?_)), fun h => ?_⟩)⟩))
    · rw [sRI_sRI]
      have hi := ih f'
      rw [orf_t (c := fun q => !sai w t q) (f := fun q => msk (pe w) (hrf w p t q true)) (by rw [b2i_0.mp h]; rfl), nI_succ] at hi; exact hi
    · have hi := ih f
      rw [orf_f (c := fun q => !sai w t q) (f := fun q => msk (pe w) (hrf w p t q true)) (by rw [b2i_n0.mp h]; rfl), nI_succ] at hi; exact hi
end MC
