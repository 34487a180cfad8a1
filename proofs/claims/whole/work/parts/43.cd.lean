/-! contracts: Search -/
def hrfT (w : WD) (who t q p : Nat) : Bool := decide (tk0 w who t q p = some t)
def tkm (w : WD) (p t q : Nat) : Int32 := msk (pe w) (hrfT w p t q)
theorem or0 (x : Int32) : x ||| 0 = x := b_ext fun i _ => by rw [b_or, b_0, Bool.or_false]
def hf (w : WD) (t : Nat) (x : Int32) (p : Nat) : Int32 := orf (fun q => if bt x q then tkm w p t q else 0) (wo w t)
def hfa (w : WD) (G : Nat → Int32) (x : Int32) : Int32 := orf (fun p => if bt x p then G p else 0) (pe w)
def spd (w : WD) (G : Nat → Int32) (A : Int32) (b : Int32) : Int32 := b ||| (hfa w G b &&& A)
/-- the scratch of Search's rows -/
def zS (k j : Nat) : Bool := Nat.beq k 69 || zT k j
theorem zTS {μ μ' : Mem} (e : Lz zT μ' = Lz zT μ) : Lz zS μ' = Lz zS μ := Lz_up (fun k j h => by unfold zS; rw [h]; simp) e
theorem zS_scr {μ μ' : Mem} (e : Lz zS μ' = Lz zS μ) : Lv μ' = Lv μ := Lz_up (fun k j h => by
  unfold zS zT at h; unfold scr
  rw [Bool.or_eq_true] at h
  rcases h with h | h
  · rw [Nat.eq_of_beq_eq_true h]; rfl
  · revert h
    cases Nat.ble 20 k && Nat.ble k 21 <;> cases (Nat.beq k 15 && Nat.ble 8 j) <;> simp) e
section CD
variable {g : Gl} {Φ : Out → Mem → Prop} {μ : Mem} {w : WD}
theorem c_tkt (c : CI μ w) {who t q : Nat} (hw : who < 10) (ht : t < th w) (H : ∀ μ', Lz zT μ' = Lz zT μ → Φ (.inl (some (.int (tkm w who t q)))) μ') :
    Spec g i_Sch_takers 0 [.ref 3, .int (nI who), .int (nI t), .int (nI q), .int (nI t)] μ Φ := by
  have t10 := ci_t10 c
  exact c_tkr c (o := some t) hw ht (fun n h => by cases h; omega) H
theorem c_hfe (c : CI μ w) {t : Nat} {x : Int32} (ht : t < th w) (H : ∀ μ', Lz zS μ' = Lz zS μ → (∀ p, p < pe w → mI μ' 69 p = hf w t x p) → Φ (.inl none) μ') :
    Spec g i_Se_hearFromEach 0 [.ref 68, .int (nI t), .int x] μ Φ := by
  have t10 := ci_t10 c
  have p10 := ci_p10 c
  have w6 := (wf_wo c.2.1 (show t < 10 by omega)).2.1
  have key := zup (P := fun k => ∀ μ', Lz zS μ' = Lz zS μ → (∀ p, p < k → mI μ' 69 p = hf w t x p) → WW g i_Se_hearFromEach 0 Φ 0 0 2 [(0, .ref 68), (1, .int (nI t)), (2, .int x), (3, .int (nI k))] [] μ') (pe w) ?_ ?_
  · exact spi o_Se_hearFromEach rfl (v_Se_hearFromEach_0 (key μ rfl (fun p h => absurd h (Nat.not_lt_zero _))))
  · intro μ' e hr
    have c' := c.lv (zS_scr e)
    exact v_Se_hearFromEach_2 ⟨fun _ => H μ' e hr, fun h => absurd (by rw [ci_pe c']; exact nI_le (Nat.le_refl _) (by omega)) h⟩
  · intro k hk ih μ' e hr
    have c' := c.lv (zS_scr e)
    have vk := vp_in_nI (N := 10) (show k < 10 by omega) (by decide)
    refine v_Se_hearFromEach_2 ⟨fun h => absurd h (by rw [ci_pe c']; exact nI_ge hk (by omega)), fun _ => ⟨vk, ?_⟩⟩
    have in2 := zup (P := fun j => ∀ μ2, Lz zS μ2 = Lz zS μ → (∀ p, p < k → mI μ2 69 p = hf w t x p) → mI μ2 69 k = orf (fun q => if bt x q then tkm w k t q else 0) j → WW g i_Se_hearFromEach 0 Φ 0 0 26 [(0, .ref 68), (1, .int (nI t)), (2, .int x), (3, .int (nI k)), (4, .int (nI j))] [] μ2) (wo w t) ?_ ?_
    · refine in2 _ ((Lz_I rfl).trans e) ?_ ?_
      · intro p hp
        rw [rI_I, if_pos rfl, nx_nI (by omega), upd_n (by omega)]; exact hr p hp
      · rw [rI_I, if_pos rfl, nx_nI (by omega), upd_s]; rfl
    · intro μ2 e2 hr2 hk2
      have c2 := c.lv (zS_scr e2)
      refine v_Se_hearFromEach_26 ⟨vp_in_nI (by omega) (by decide), fun _ => ?_, fun h => absurd (by rw [nx_nI (by omega), ci_wo c2 (by omega)]; exact nI_le (Nat.le_refl _) (by omega)) h⟩
      rw [← nI_succ]
      refine ih μ2 e2 fun p hp => ?_
      by_cases q : p = k
      · rw [q]; exact hk2
      · exact hr2 p (by omega)
    · intro j hj ihj μ2 e2 hr2 hk2
      have c2 := c.lv (zS_scr e2)
      refine v_Se_hearFromEach_26 ⟨vp_in_nI (by omega) (by decide), fun h => absurd h (by rw [nx_nI (by omega), ci_wo c2 (by omega)]; exact nI_ge hj (by omega)), fun _ => ⟨fun h => ?_, fun h => ⟨vk, c_tkt c2 (by omega) ht fun μ3 e3 => oI ⟨vk, ?_⟩⟩⟩⟩
      · rw [tb0 (by omega)] at h
        rw [← nI_succ]
        refine ihj μ2 e2 hr2 ?_
        rw [hk2, orf_f (c := bt x) (f := tkm w k t) h, or0]
      · rw [tb0 (by omega), Bool.not_eq_false] at h
        rw [← nI_succ]
        have e69 : mI μ3 69 = mI μ2 69 := rdI e3 fun _ => rfl
        refine ihj _ ((Lz_I rfl).trans ((zTS e3).trans e2)) ?_ ?_
        · intro p hp
          rw [rI_I, if_pos rfl, nx_nI (by omega), upd_n (by omega), e69]; exact hr2 p hp
        · rw [rI_I, if_pos rfl, nx_nI (by omega), upd_s, hk2, orf_t (c := bt x) (f := tkm w k t) h]
theorem c_hfa (c : CI μ w) {G : Nat → Int32} (hG : ∀ p, p < pe w → mI μ 69 p = G p) {x : Int32} (H : Φ (.inl (some (.int (hfa w G x)))) μ) : Spec g i_Se_heardFromAll 0 [.ref 68, .int x] μ Φ := by
  have p10 := ci_p10 c
  refine spi o_Se_heardFromAll rfl (v_Se_heardFromAll_0 (zup (P := fun k => WW g i_Se_heardFromAll 0 Φ 0 0 4 [(0, .ref 68), (1, .int x), (2, .int (orf (fun p => if bt x p then G p else 0) k)), (3, .int (nI k))] [] μ) (pe w) ?_ ?_))
  · exact v_Se_heardFromAll_4 ⟨fun _ => H, fun h => absurd (by rw [ci_pe c]; exact nI_le (Nat.le_refl _) (by omega)) h⟩
  · intro k hk ih
    refine v_Se_heardFromAll_4 ⟨fun h => absurd h (by rw [ci_pe c]; exact nI_ge hk (by omega)), fun _ => ⟨fun h => ?_, fun h => ⟨vp_in_nI (by omega) (by decide), ?_⟩⟩⟩
    · rw [tb0 (by omega)] at h
      rw [orf_f (c := bt x) (f := G) h, nI_succ] at ih; exact ih
    · rw [tb0 (by omega), Bool.not_eq_false] at h
      rw [orf_t (c := bt x) (f := G) h, nI_succ] at ih
      rw [nx_nI (by omega), hG k hk]; exact ih
theorem c_spr (c : CI μ w) {G : Nat → Int32} (hG : ∀ p, p < pe w → mI μ 69 p = G p) {A K : Int32} (H : Φ (.inl (some (.int (it (spd w G A) 10 (K &&& A))))) μ) : Spec g i_Se_spreadAmong 0 [.ref 68, .int A, .int K] μ Φ := by
  refine spi o_Se_spreadAmong rfl (v_Se_spreadAmong_0 (zup (P := fun r => WW g i_Se_spreadAmong 0 Φ 0 0 7 [(0, .ref 68), (1, .int A), (3, .int (it (spd w G A) r (K &&& A))), (4, .int (nI r))] [] μ) 10 ?_ ?_))
  · exact v_Se_spreadAmong_7 ⟨fun _ => H, fun h => absurd (nI_le (a := 10) (b := 10) (by decide) (by decide)) h⟩
  · intro r hr ih
    refine v_Se_spreadAmong_7 ⟨fun h => absurd h (nI_ge (a := r) (b := 10) hr (by decide)), fun _ => c_hfa c hG (oI ?_)⟩
    rw [← nI_succ]; exact ih
/-- sets of others by which one is kept from a thing -/
def subm (x y : Int32) : Bool := decide (x &&& (y ^^^ (-1)) = 0)
def oth (w : WD) (p : Nat) : Int32 := msk (pe w) (her w) &&& (((1 : Int32) <<< (nI p &&& 31)) ^^^ (-1))
def gkep (w : WD) (p t : Nat) (s : Nat) : Bool := subm (nI s) (oth w p) && !bt (it (spd w (hf w t 63) (msk (pe w) (her w) &&& (nI s ^^^ (-1)))) 10 (msk (pe w) (fun r => kno w r t) &&& (msk (pe w) (her w) &&& (nI s ^^^ (-1))))) p
def num (x : Int32) : Nat := x.toBitVec.toNat
theorem num_nI {n : Nat} (h : n < 2 ^ 32) : num (nI n) = n := pk_tn h
theorem nI_num (x : Int32) : nI (num x) = x := by
  obtain ⟨n, h1, h2⟩ := (⟨x.toBitVec.toNat, x.toBitVec.isLt, Int32.toBitVec_inj.mp (by show _ = BitVec.ofNat 32 _; simp)⟩ : ∃ n, n < 2 ^ 32 ∧ x = nI n)
  rw [h2, num_nI h1]
theorem num_lt {x : Int32} {n : Nat} (hn : n ≤ 31) (h : ∀ i, n ≤ i → i < 32 → bt x i = false) : num x < 2 ^ n := by
  obtain ⟨m, h1, h2⟩ := small_of hn h
  rw [h2, num_nI (Nat.lt_of_lt_of_le h1 (Nat.le_trans (Nat.pow_le_pow_right (by decide) hn) (by decide)))]; exact h1
theorem oth_lt (w : WD) (h : pe w ≤ 10) (p : Nat) : num (oth w p) < 1024 := num_lt (n := 10) (by decide) fun i h1 h2 => by unfold oth; rw [b_and, b_msk (by omega) h2]; simp; omega
def kep (w : WD) (p t : Nat) : Option Nat := upb (gkep w p t) sz (num (oth w p) + 1)
theorem c_kep (c : CI μ w) {p t : Nat} (hp : p < pe w) (ht : t < th w) (H : ∀ μ', Lz zS μ' = Lz zS μ → Φ (.inl (some (.int (if kno w p t then -2 else ov (kep w p t))))) μ') : Spec g i_Se_keptFrom 0 [.ref 68, .int (nI p), .int (nI t)] μ Φ := by
  have t10 := ci_t10 c
  have p10 := ci_p10 c
  refine spi o_Se_keptFrom rfl (v_Se_keptFrom_0 (c_isk c (by omega) (by omega) (oI ⟨fun h => ?_, fun h => ?_⟩)))
  · rw [b2i_0] at h
    rw [h] at H
    refine c_hfe c (x := 63) ht fun μ1 e1 hG => oV ?_
    have c1 := c.lv (zS_scr e1)
    refine c_pre c1 (oI (c_knr c1 (by omega) (oI ?_)))
    show WW g i_Se_keptFrom 0 Φ 0 0 55 [(0, .ref 68), (1, .int (nI p)), (3, .int (oth w p)), (4, .int (msk (pe w) (fun r => kno w r t))), (5, .int (ov none)), (6, .int (nI 0))] [] μ1
    have H' := H μ1 e1
    have ho := oth_lt w p10 p
    unfold kep at H'
    have eo := nI_num (oth w p)
    generalize hN : num (oth w p) = N at *
    refine zup (P := fun k => WW g i_Se_keptFrom 0 Φ 0 0 55 [(0, .ref 68), (1, .int (nI p)), (3, .int (oth w p)), (4, .int (msk (pe w) (fun r => kno w r t))), (5, .int (ov (upb (gkep w p t) sz k))), (6, .int (nI k))] [] μ1) (N + 1) ?_ ?_
    · refine v_Se_keptFrom_55 ⟨fun _ => H', fun h => absurd ?_ h⟩
      rw [← eo]; exact nI_lt (by omega) (by omega)
    · intro k hk ih
      have hup : upb (gkep w p t) sz (k + 1) = if bfew sz k (upb (gkep w p t) sz k) && gkep w p t k then some k else upb (gkep w p t) sz k := rfl
      have hno : (bfew sz k (upb (gkep w p t) sz k) && gkep w p t k) = false → WW g i_Se_keptFrom 0 Φ 0 0 55 [(0, .ref 68), (1, .int (nI p)), (3, .int (oth w p)), (4, .int (msk (pe w) (fun r => kno w r t))), (5, .int (ov (upb (gkep w p t) sz k))), (6, .int (nI k + 1))] [] μ1 := by
        intro e
        rw [hup, if_neg (by rw [e]; decide), nI_succ] at ih; exact ih
      refine v_Se_keptFrom_55 ⟨fun h => absurd h ?_, fun _ => ⟨fun h => ⟨fun _ => hno ?_, fun h => absurd rfl h⟩, fun h => c_few (by omega) (fun n hn => by have := (upb_some hn).1; omega) (oI ⟨fun h2 => ⟨fun _ => hno ?_, fun h => absurd rfl h⟩, fun h2 => ⟨fun h => absurd h (by decide), fun _ => c_pre c1 (oI (c_spr c1 hG (oI ⟨fun h3 => hno ?_, fun h3 => ?_⟩)))⟩⟩)⟩⟩
      · rw [← eo]; exact nI_nlt (by omega) (by omega)
      · unfold gkep subm; rw [decide_eq_false h]; simp
      · rw [b2i_0.mp h2]; rfl
      · rw [tb0 (by omega), Bool.not_eq_false] at h3
        unfold gkep; rw [h3]; simp
      · rw [tb0 (by omega)] at h3
        rw [hup, if_pos (by rw [b2i_n0.mp h2]; unfold gkep subm; rw [h3, decide_eq_true h]; rfl), nI_succ] at ih
        exact ih
  · rw [b2i_n0] at h
    have := H μ rfl
    rw [if_pos h] at this; exact this
def gspk (w : WD) (t : Nat) (s : Nat) : Bool := subm (nI s) (msk (pe w) (fun r => kno w r t) &&& msk (pe w) (her w)) && decide (((msk (pe w) (fun r => kno w r t) &&& msk (pe w) (her w)) ||| hfa w (hf w t (msk 6 (lef w t))) (nI s)) = msk (pe w) (her w))
def spk (w : WD) (t : Nat) : Option Nat := upb (gspk w t) sz (num (msk (pe w) (fun r => kno w r t) &&& msk (pe w) (her w)) + 1)
theorem kh_lt (w : WD) (h : pe w ≤ 10) (t : Nat) : num (msk (pe w) (fun r => kno w r t) &&& msk (pe w) (her w)) < 1024 := num_lt (n := 10) (by decide) fun i h1 h2 => by rw [b_and, b_msk (by omega) h2]; simp; omega
theorem c_spk (c : CI μ w) {t : Nat} (ht : t < th w) (H : ∀ μ', Lz zS μ' = Lz zS μ → Φ (.inl (some (.int (ov (spk w t))))) μ') : Spec g i_Se_fewestSpeakers 0 [.ref 68, .int (nI t)] μ Φ := by
  have t10 := ci_t10 c
  have p10 := ci_p10 c
  refine spi o_Se_fewestSpeakers rfl (v_Se_fewestSpeakers_0 (c_left c (by omega) (oI (c_hfe c ht fun μ1 e1 hG => oV ?_))))
  have c1 := c.lv (zS_scr e1)
  refine c_knr c1 (by omega) (oI (c_pre c1 (oI ?_)))
  have H' := H μ1 e1
  have ho := kh_lt w p10 t
  unfold spk gspk at H'
  have eo := nI_num (msk (pe w) (fun r => kno w r t) &&& msk (pe w) (her w))
  generalize hN : num (msk (pe w) (fun r => kno w r t) &&& msk (pe w) (her w)) = N at *
  generalize msk (pe w) (fun r => kno w r t) &&& msk (pe w) (her w) = KH at *
  generalize hg : (fun s => subm (nI s) KH && decide ((KH ||| hfa w (hf w t (msk 6 (lef w t))) (nI s)) = msk (pe w) (her w))) = gd at *
  refine zup (P := fun k => WW g i_Se_fewestSpeakers 0 Φ 0 0 35 [(0, .ref 68), (2, .int KH), (3, .int (ov (upb gd sz k))), (4, .int (nI k))] [] μ1) (N + 1) ?_ ?_
  · refine v_Se_fewestSpeakers_35 ⟨fun _ => H', fun h => absurd ?_ h⟩
    rw [← eo]; exact nI_lt (by omega) (by omega)
  · intro k hk ih
    have hup : upb gd sz (k + 1) = if bfew sz k (upb gd sz k) && gd k then some k else upb gd sz k := rfl
    have hgd : gd k = (subm (nI k) KH && decide ((KH ||| hfa w (hf w t (msk 6 (lef w t))) (nI k)) = msk (pe w) (her w))) := by rw [← hg]
    have hno : (bfew sz k (upb gd sz k) && gd k) = false → WW g i_Se_fewestSpeakers 0 Φ 0 0 35 [(0, .ref 68), (2, .int KH), (3, .int (ov (upb gd sz k))), (4, .int (nI k + 1))] [] μ1 := by
      intro e
      rw [hup, if_neg (by rw [e]; decide), nI_succ] at ih; exact ih
    refine v_Se_fewestSpeakers_35 ⟨fun h => absurd h ?_, fun _ => ⟨fun h => ⟨fun _ => hno ?_, fun h => absurd rfl h⟩, fun h => c_few (by omega) (fun n hn => by have := (upb_some hn).1; omega) (oI ⟨fun h2 => ⟨fun _ => hno ?_, fun h => absurd rfl h⟩, fun h2 => ⟨fun h => absurd h (by decide), fun _ => c_hfa c1 hG (oI (c_pre c1 (oI ⟨fun h3 => hno ?_, fun h3 => ?_⟩)))⟩⟩)⟩⟩
    · rw [← eo]; exact nI_nlt (by omega) (by omega)
    · rw [hgd]; unfold subm; rw [decide_eq_false h]; simp
    · rw [b2i_0.mp h2]; rfl
    · rw [hgd, decide_eq_false h3]; simp
    · rw [hup, if_pos (by rw [b2i_n0.mp h2, hgd]; unfold subm; rw [decide_eq_true h3, decide_eq_true h]; rfl), nI_succ] at ih
      exact ih
end CD
