/-! contracts of School: what is left, who knows, who hears -/
def lef (w : WD) (t q : Nat) : Bool := decide (q < wo w t) && !sai w t q
def lf (w : WD) (t : Nat) : Nat := ct (lef w t) 6
def sm (f : Nat → Nat) : Nat → Nat
  | 0 => 0
  | n + 1 => sm f n + f n
def orf (f : Nat → Int32) (n : Nat) : Int32 := fo (fun p a => a ||| f p) n 0
theorem sm_cong {f h : Nat → Nat} : ∀ {n : Nat}, (∀ i, i < n → f i = h i) → sm f n = sm h n := by
  intro n
  induction n with
  | zero => intro _; rfl
  | succ n ih => intro e; show sm f n + f n = sm h n + h n; rw [ih (fun i hi => e i (by omega)), e n (by omega)]
theorem orf_cong {f h : Nat → Int32} : ∀ {n : Nat}, (∀ i, i < n → f i = h i) → orf f n = orf h n := by
  intro n
  induction n with
  | zero => intro _; rfl
  | succ n ih => intro e; show orf f n ||| f n = orf h n ||| h n; rw [ih (fun i hi => e i (by omega)), e n (by omega)]
theorem orf_t {f : Nat → Int32} {c : Nat → Bool} {k : Nat} (h : c k = true) : orf (fun p => if c p then f p else 0) (k + 1) = orf (fun p => if c p then f p else 0) k ||| f k := by
  show orf (fun p => if c p then f p else 0) k ||| (if c k = true then f k else 0) = _
  rw [if_pos h]
theorem orf_f {f : Nat → Int32} {c : Nat → Bool} {k : Nat} (h : c k = false) : orf (fun p => if c p then f p else 0) (k + 1) = orf (fun p => if c p then f p else 0) k ||| 0 := by
  show orf (fun p => if c p then f p else 0) k ||| (if c k = true then f k else 0) = _
  rw [if_neg (by rw [h]; decide)]
theorem sm_le {f : Nat → Nat} {c : Nat} : ∀ {n : Nat}, (∀ i, i < n → f i ≤ c) → sm f n ≤ c * n := by
  intro n
  induction n with
  | zero => intro _; exact Nat.le_refl _
  | succ n ih => intro h; have := ih (fun i hi => h i (by omega)); have := h n (by omega); show sm f n + f n ≤ _; rw [Nat.mul_succ]; omega
theorem lf_le (w : WD) (t : Nat) : lf w t ≤ 6 := ct_le _ _
section CB
variable {g : Gl} {Φ : Out → Mem → Prop} {μ : Mem} {w : WD}
theorem c_said (c : CI μ w) {t : Nat} (ht : t < 10) (H : Φ (.inl (some (.int (msk 6 (sai w t))))) μ) : Spec g i_Sch_saidWordings 0 [.ref 3, .int (nI t)] μ Φ := by
  refine spi o_Sch_saidWordings rfl (v_Sch_saidWordings_0 ?_)
  rw [show (6 : Int32) = nI 6 from rfl, pk_mul, ci_sto c]
  have : (lush w.2 (nI (6 * t))).toInt32 &&& 63 = msk 6 (sai w t) := by
    apply msk_ext (by omega); intro i hi
    rw [b_and, bt_l2i _ hi, bl_ushr _ (by omega)]
    have : ∀ i, i < 32 → bt 63 i = decide (i < 6) := by decide +kernel
    rw [this i hi, Bool.and_comm]; rfl
  rw [this]; exact H
theorem msk_w {a n : Nat} (ha : a ≤ n) (hn : n ≤ 31) (f : Nat → Bool) : (((1 : Int32) <<< (nI a &&& 31)) - 1) &&& (msk n f ^^^ (-1)) = msk n (fun q => decide (q < a) && !f q) := by
  apply msk_ext (by omega); intro i hi
  rw [b_and, b_full (by omega) hi, b_not hi, b_msk (by omega) hi]
  by_cases h : i < a
  · have : i < n := by omega
    simp [h, this]
  · simp [h]
theorem c_left (c : CI μ w) {t : Nat} (ht : t < 10) (H : Φ (.inl (some (.int (msk 6 (lef w t))))) μ) : Spec g i_Sch_leftWordings 0 [.ref 3, .int (nI t)] μ Φ := by
  refine spi o_Sch_leftWordings rfl (v_Sch_leftWordings_0 ⟨vp_in_nI ht (by decide), c_said c ht (oI ?_)⟩)
  rw [nx_nI (by omega), ci_wo c ht, msk_w (wf_wo c.2.1 ht).2.1 (by omega)]; exact H
theorem lef_q {t q : Nat} (h : WFs w) (ht : t < 10) (hq : lef w t q = true) : q < 6 := by
  have := (wf_wo h ht).2.1
  unfold lef at hq
  simp only [Bool.and_eq_true, decide_eq_true_eq] at hq
  omega
theorem c_isL (c : CI μ w) {t q : Nat} (ht : t < 10) (hq : q < 32) (H : Φ (.inl (some (.int (b2i (lef w t q))))) μ) : Spec g i_Sch_isLeft 0 [.ref 3, .int (nI t), .int (nI q)] μ Φ := by
  have e : bt (msk 6 (lef w t)) q = lef w t q := by
    rw [b_msk (by omega) hq]
    cases h : lef w t q with
    | true => have := lef_q c.2.1 ht h; simp [this]
    | false => simp
  refine spi o_Sch_isLeft rfl (v_Sch_isLeft_0 (c_left c ht (oI ⟨fun h => ?_, fun h => ?_⟩)))
  · rw [tb0 hq, e] at h
    rw [b2i_f h] at H; exact z01 H
  · rw [tb0 hq, e, Bool.not_eq_false] at h
    rw [b2i_t h] at H; exact z11 H
theorem c_cL (c : CI μ w) {t : Nat} (ht : t < 10) (H : Φ (.inl (some (.int (nI (lf w t))))) μ) : Spec g i_Sch_countLeft 0 [.ref 3, .int (nI t)] μ Φ := by
  refine spi o_Sch_countLeft rfl (v_Sch_countLeft_0 (c_left c ht (oI (c_bc (oI ?_)))))
  rw [bc_msk (by omega)]; exact H
theorem c_cLO (c : CI μ w) {x : Int32} (H : Φ (.inl (some (.int (nI (sm (fun t => if bt x t then lf w t else 0) (th w)))))) μ) : Spec g i_Sch_countLeftOf 0 [.ref 3, .int x] μ Φ := by
  have t10 := ci_t10 c
  refine spi o_Sch_countLeftOf rfl (v_Sch_countLeftOf_0 (zup (P := fun k => WW g i_Sch_countLeftOf 0 Φ 0 0 4 [(0, .ref 3), (1, .int x), (2, .int (nI (sm (fun t => if bt x t then lf w t else 0) k))), (3, .int (nI k))] [] μ) (th w) ?_ ?_))
  · exact v_Sch_countLeftOf_4 ⟨fun _ => H, fun h => absurd (by rw [ci_th c]; exact nI_le (Nat.le_refl _) (by omega)) h⟩
  · intro k hk ih
    refine v_Sch_countLeftOf_4 ⟨fun h => absurd h (by rw [ci_th c]; exact nI_ge hk (by omega)), fun _ => ⟨fun h => ?_, fun h => c_cL c (by omega) (oI ?_)⟩⟩
    · rw [tb0 (by omega)] at h
      rw [show sm (fun t => if bt x t then lf w t else 0) (k + 1) = sm (fun t => if bt x t then lf w t else 0) k + 0 by show _ + (if _ then _ else _) = _; rw [if_neg (by rw [h]; decide)], ← nI_add, nI_succ] at ih
      exact ih
    · rw [tb0 (by omega), Bool.not_eq_false] at h
      rw [show sm (fun t => if bt x t then lf w t else 0) (k + 1) = sm (fun t => if bt x t then lf w t else 0) k + lf w k by show _ + (if _ then _ else _) = _; rw [if_pos h], ← nI_add, nI_succ] at ih
      exact ih
theorem c_lTh (c : CI μ w) (H : Φ (.inl (some (.int (msk (th w) (fun t => decide (¬ lf w t = 0)))))) μ) : Spec g i_Sch_leftThings 0 [.ref 3] μ Φ := by
  have t10 := ci_t10 c
  refine spi o_Sch_leftThings rfl (v_Sch_leftThings_0 (zup (P := fun k => WW g i_Sch_leftThings 0 Φ 0 0 4 [(0, .ref 3), (1, .int (msk k (fun t => decide (¬ lf w t = 0)))), (2, .int (nI k))] [] μ) (th w) ?_ ?_))
  · exact v_Sch_leftThings_4 ⟨fun _ => H, fun h => absurd (by rw [ci_th c]; exact nI_le (Nat.le_refl _) (by omega)) h⟩
  · intro k hk ih
    refine v_Sch_leftThings_4 ⟨fun h => absurd h (by rw [ci_th c]; exact nI_ge hk (by omega)), fun _ => c_left c (by omega) (oI ⟨fun h => ?_, fun h => ?_⟩)⟩
    · have : lf w k = 0 := ct_0.mpr ((msk_0 (by omega)).mp h)
      rw [msk_f (by simp [this]), nI_succ] at ih; exact ih
    · have : ¬ lf w k = 0 := fun q => h ((msk_0 (by omega)).mpr (ct_0.mp q))
      rw [msk_t (by simp [this]), nI_succ] at ih; exact ih
theorem c_sTh (c : CI μ w) (H : Φ (.inl (some (.int (msk (th w) (fun t => decide (¬ ct (sai w t) 6 = 0)))))) μ) : Spec g i_Sch_saidThings 0 [.ref 3] μ Φ := by
  have t10 := ci_t10 c
  refine spi o_Sch_saidThings rfl (v_Sch_saidThings_0 (zup (P := fun k => WW g i_Sch_saidThings 0 Φ 0 0 4 [(0, .ref 3), (1, .int (msk k (fun t => decide (¬ ct (sai w t) 6 = 0)))), (2, .int (nI k))] [] μ) (th w) ?_ ?_))
  · exact v_Sch_saidThings_4 ⟨fun _ => H, fun h => absurd (by rw [ci_th c]; exact nI_le (Nat.le_refl _) (by omega)) h⟩
  · intro k hk ih
    refine v_Sch_saidThings_4 ⟨fun h => absurd h (by rw [ci_th c]; exact nI_ge hk (by omega)), fun _ => c_said c (by omega) (oI ⟨fun h => ?_, fun h => ?_⟩)⟩
    · have : ct (sai w k) 6 = 0 := ct_0.mpr ((msk_0 (by omega)).mp h)
      rw [msk_f (by simp [this]), nI_succ] at ih; exact ih
    · have : ¬ ct (sai w k) 6 = 0 := fun q => h ((msk_0 (by omega)).mpr (ct_0.mp q))
      rw [msk_t (by simp [this]), nI_succ] at ih; exact ih
theorem c_knr (c : CI μ w) {t : Nat} (ht : t < 32) (H : Φ (.inl (some (.int (msk (pe w) (fun p => kno w p t))))) μ) : Spec g i_Sch_knowers 0 [.ref 3, .int (nI t)] μ Φ := by
  have p10 := ci_p10 c
  refine spi o_Sch_knowers rfl (v_Sch_knowers_0 (zup (P := fun k => WW g i_Sch_knowers 0 Φ 0 0 4 [(0, .ref 3), (1, .int (nI t)), (2, .int (msk k (fun p => kno w p t))), (3, .int (nI k))] [] μ) (pe w) ?_ ?_))
  · exact v_Sch_knowers_4 ⟨fun _ => H, fun h => absurd (by rw [ci_pe c]; exact nI_le (Nat.le_refl _) (by omega)) h⟩
  · intro k hk ih
    refine v_Sch_knowers_4 ⟨fun h => absurd h (by rw [ci_pe c]; exact nI_ge hk (by omega)), fun _ => c_isk c (by omega) ht (oI ⟨fun h => ?_, fun h => ?_⟩)⟩
    · rw [msk_f (f := fun p => kno w p t) (b2i_0.mp h), nI_succ] at ih; exact ih
    · rw [msk_t (f := fun p => kno w p t) (b2i_n0.mp h), nI_succ] at ih; exact ih
theorem c_pre (c : CI μ w) (H : Φ (.inl (some (.int (msk (pe w) (her w))))) μ) : Spec g i_Sch_present 0 [.ref 3] μ Φ := by
  have p10 := ci_p10 c
  refine spi o_Sch_present rfl (v_Sch_present_0 ?_)
  rw [ci_pe c, ci_abs c, msk_w p10 (by omega)]
  have : msk 10 (fun q => decide (q < pe w) && !(!her w q)) = msk (pe w) (her w) := by
    apply msk_ext (by omega); intro i hi
    rw [b_msk (by omega) hi]
    by_cases h : i < pe w
    · have : i < 10 := by omega
      simp [h, this]
    · simp [h]
  rw [this]; exact H
theorem c_all (c : CI μ w) (H : Φ (.inl (some (.int (msk (th w) (fun _ => true))))) μ) : Spec g i_Sch_allThings 0 [.ref 3] μ Φ := by
  have t10 := ci_t10 c
  refine spi o_Sch_allThings rfl (v_Sch_allThings_0 ?_)
  rw [ci_th c, msk_full (by omega)]; exact H
theorem c_kby (c : CI μ w) {x : Int32} (H : Φ (.inl (some (.int (orf (fun p => if bt x p then pf w p 4 else 0) (pe w))))) μ) : Spec g i_Sch_knownBy 0 [.ref 3, .int x] μ Φ := by
  have p10 := ci_p10 c
  refine spi o_Sch_knownBy rfl (v_Sch_knownBy_0 (zup (P := fun k => WW g i_Sch_knownBy 0 Φ 0 0 4 [(0, .ref 3), (1, .int x), (2, .int (orf (fun p => if bt x p then pf w p 4 else 0) k)), (3, .int (nI k))] [] μ) (pe w) ?_ ?_))
  · exact v_Sch_knownBy_4 ⟨fun _ => H, fun h => absurd (by rw [ci_pe c]; exact nI_le (Nat.le_refl _) (by omega)) h⟩
  · intro k hk ih
    refine v_Sch_knownBy_4 ⟨fun h => absurd h (by rw [ci_pe c]; exact nI_ge hk (by omega)), fun _ => ⟨fun h => ?_, fun h => ⟨vp_in_nI (by omega) (by decide), ?_⟩⟩⟩
    · rw [tb0 (by omega)] at h
      rw [orf_f (c := bt x) (f := fun p => pf w p 4) h, nI_succ] at ih
      exact ih
    · rw [tb0 (by omega), Bool.not_eq_false] at h
      rw [orf_t (c := bt x) (f := fun p => pf w p 4) h, nI_succ] at ih
      rw [nx_nI (by omega), ci_kn c (by omega)]; exact ih
theorem c_can (c : CI μ w) {p t : Nat} (hp : p < 10) (ht : t < 32) (H : Φ (.inl (some (.int (b2i (her w p && kno w p t))))) μ) : Spec g i_Sch_canTell 0 [.ref 3, .int (nI p), .int (nI t)] μ Φ := by
  refine spi o_Sch_canTell rfl (v_Sch_canTell_0 (c_abs c hp (oI ⟨fun h => ?_, fun h => c_isk c hp ht (oI ⟨fun h2 => ?_, fun h2 => ?_⟩)⟩)))
  · rw [b2i_n0] at h
    rw [b2i_f (by rw [show her w p = false by simpa using h]; rfl)] at H; exact z01 H
  · rw [b2i_0] at h2
    rw [b2i_f (by rw [h2]; simp)] at H; exact z01 H
  · rw [b2i_0, Bool.not_eq_false'] at h
    rw [b2i_n0] at h2
    rw [b2i_t (by rw [h, h2]; rfl)] at H; exact z11 H
theorem c_tNow (c : CI μ w) {who t q p : Nat} (hw : who < 10) (ht : t < th w) (hp : p < 10) (H : ∀ μ', Lz zT μ' = Lz zT μ → Φ (.inl (some (.int (ov (tk0 w who t q p))))) μ') :
    Spec g i_Sch_takenNow 0 [.ref 3, .int (nI who), .int (nI t), .int (nI q), .int (nI p)] μ Φ := by
  have t10 := ci_t10 c
  exact spi o_Sch_takenNow rfl (v_Sch_takenNow_0 (c_isk c hp (by omega) (oI (c_taken c _ hw ht hp fun μ' e => oI (H μ' e)))))
theorem ov_inj {a b : Option Nat} (ha : ∀ n, a = some n → n < 2 ^ 31) (hb : ∀ n, b = some n → n < 2 ^ 31) : ov a = ov b ↔ a = b := by
  constructor
  · intro h
    have hm : ∀ n, n < 2 ^ 31 → ¬ nI n = -1 := fun n hn e => nI_pos hn (by rw [e]; decide)
    cases a with
    | none => cases b with
      | none => rfl
      | some n => exact absurd h.symm (hm n (hb n rfl))
    | some m => cases b with
      | none => exact absurd h (hm m (ha m rfl))
      | some n => rw [nI_inj (ha m rfl) (hb n rfl) h]
  · intro h; rw [h]
theorem c_tkr (c : CI μ w) {who t q : Nat} {o : Option Nat} (hw : who < 10) (ht : t < th w) (ho : ∀ n, o = some n → n < 10) (H : ∀ μ', Lz zT μ' = Lz zT μ → Φ (.inl (some (.int (msk (pe w) (fun p => decide (tk0 w who t q p = o)))))) μ') :
    Spec g i_Sch_takers 0 [.ref 3, .int (nI who), .int (nI t), .int (nI q), .int (ov o)] μ Φ := by
  have t10 := ci_t10 c
  have p10 := ci_p10 c
  have key := zup (P := fun k => ∀ μ', Lz zT μ' = Lz zT μ → WW g i_Sch_takers 0 Φ 0 0 6 [(0, .ref 3), (1, .int (nI who)), (2, .int (nI t)), (3, .int (nI q)), (4, .int (ov o)), (5, .int (msk k (fun p => decide (tk0 w who t q p = o)))), (6, .int (nI k))] [] μ') (pe w) ?_ ?_
  · exact spi o_Sch_takers rfl (v_Sch_takers_0 (key μ rfl))
  · intro μ' e
    have c' := c.lv (zT_scr e)
    exact v_Sch_takers_6 ⟨fun _ => H μ' e, fun h => absurd (by rw [ci_pe c']; exact nI_le (Nat.le_refl _) (by omega)) h⟩
  · intro k hk ih μ' e
    have c' := c.lv (zT_scr e)
    refine v_Sch_takers_6 ⟨fun h => absurd h (by rw [ci_pe c']; exact nI_ge hk (by omega)), fun _ => c_isk c' (by omega) (by omega) (oI (c_taken c' _ hw ht (by omega) fun μ2 e2 => oI ⟨fun h => ?_, fun h => ?_⟩))⟩
    · have ih := ih μ2 (e2.trans e)
      have hne : ¬ tk0 w who t q k = o := fun q => h (by rw [← q]; rfl)
      rw [msk_f (by simp [hne]), nI_succ] at ih; exact ih
    · have ih := ih μ2 (e2.trans e)
      have heq : tk0 w who t q k = o := (ov_inj (fun n hn => Nat.lt_of_lt_of_le (tk0_lt (by omega) hn) (by omega)) (fun n hn => Nat.lt_of_lt_of_le (ho n hn) (by omega))).mp h
      rw [msk_t (by simp [heq]), nI_succ] at ih; exact ih
theorem c_hrs (c : CI μ w) {who t q : Nat} (hw : who < 10) (ht : t < th w) (H : ∀ μ', Lz zT μ' = Lz zT μ → Φ (.inl (some (.int (msk (pe w) (fun p => (tk0 w who t q p).isSome))))) μ') :
    Spec g i_Sch_hearers 0 [.ref 3, .int (nI who), .int (nI t), .int (nI q)] μ Φ := by
  have p10 := ci_p10 c
  refine spi o_Sch_hearers rfl (v_Sch_hearers_0 (c_tkr c (o := none) hw ht (fun n h => by cases h) fun μ' e => oI ?_))
  rw [ci_pe c, msk_w (Nat.le_refl _) (by omega)]
  have : msk (pe w) (fun q_1 => decide (q_1 < pe w) && !decide (tk0 w who t q q_1 = none)) = msk (pe w) (fun p => (tk0 w who t q p).isSome) := by
    apply msk_cong; intro i hi
    cases tk0 w who t q i <;> simp [hi]
  rw [this]; exact H μ' e
end CB
