/-! how many sayings there can be: what people come to know -/
abbrev MD : Type := Nat → Int32
/-- who would take a saying as what, by the minds M -/
def tkM (w : WD) (who t q : Nat) (M : MD) (p : Nat) : Option Nat := tkx w who t q p (bt (M p) t)
def nwM (w : WD) (who t q : Nat) (M : MD) (p : Nat) : Bool := match tkM w who t q M p with
  | none => false
  | some a => !bt (M p) a
def tl1 (w : WD) (who t q : Nat) (M : MD) (n : Nat) : MD := fun p => if p < n then (match tkM w who t q M p with | none => M p | some a => if bt (M p) a then M p else M p ||| ((1 : Int32) <<< (nI a &&& 31))) else M p
def anyb (f : Nat → Bool) : Nat → Bool
  | 0 => false
  | n + 1 => anyb f n || f n
def tlQ (w : WD) (who t : Nat) (s : MD × Bool) : Nat → MD × Bool
  | 0 => s
  | q + 1 => if bt ((tlQ w who t s q).1 who) t && lef w t q then (tl1 w who t q (tlQ w who t s q).1 (pe w), (tlQ w who t s q).2 || anyb (nwM w who t q (tlQ w who t s q).1) (pe w)) else tlQ w who t s q
def tlT (w : WD) (who : Nat) (s : MD × Bool) : Nat → MD × Bool
  | 0 => s
  | t + 1 => tlQ w who t (tlT w who s t) (wo w t)
def tlP (w : WD) (s : MD × Bool) : Nat → MD × Bool
  | 0 => s
  | p + 1 => if her w p then tlT w p (tlP w s p) (th w) else tlP w s p
/-- one going through -/
def rdM (w : WD) (M : MD) : MD × Bool := tlP w (M, false) (pe w)
def itM (w : WD) (M : MD) : Nat → MD
  | 0 => M
  | n + 1 => (rdM w (itM w M n)).1
/-- a step of learning: nothing is forgotten, and it says whether there is more -/
def okM (n : Nat) (s s' : MD × Bool) : Prop := (∀ p i, bt (s.1 p) i = true → bt (s'.1 p) i = true) ∧ (s.2 = true → s'.2 = true) ∧ (s'.2 = s.2 ∧ s'.1 = s.1 ∨ (s'.2 = true ∧ ∃ p i, p < n ∧ i < 10 ∧ bt (s.1 p) i = false ∧ bt (s'.1 p) i = true)) ∧ ∀ p i, 10 ≤ i → i < 32 → bt (s.1 p) i = false → bt (s'.1 p) i = false
theorem okM_rfl {n : Nat} {s : MD × Bool} : okM n s s := ⟨fun _ _ h => h, fun h => h, Or.inl ⟨rfl, rfl⟩, fun _ _ _ _ h => h⟩
theorem okM_tr {n : Nat} {s s' s'' : MD × Bool} (h : okM n s s') (k : okM n s' s'') : okM n s s'' := by
  obtain ⟨h1, h2, h3, h4⟩ := h
  obtain ⟨k1, k2, k3, k4⟩ := k
  refine ⟨fun p i hb => k1 p i (h1 p i hb), fun hb => k2 (h2 hb), ?_, fun p i a b c => k4 p i a b (h4 p i a b c)⟩
  rcases h3 with ⟨e1, e2⟩ | ⟨e1, p, i, e2, e3, e4, e5⟩
  · rcases k3 with ⟨f1, f2⟩ | ⟨f1, p, i, f2, f3, f4, f5⟩
    · exact Or.inl ⟨f1.trans e1, f2.trans e2⟩
    · exact Or.inr ⟨f1, p, i, f2, f3, by rw [← e2]; exact f4, f5⟩
  · exact Or.inr ⟨k2 e1, p, i, e2, e3, e4, k1 p i e5⟩
theorem anyb_t {f : Nat → Bool} : ∀ {n : Nat}, anyb f n = true → ∃ i, i < n ∧ f i = true := by
  intro n
  induction n with
  | zero => intro h; cases h
  | succ n ih =>
    intro h
    unfold anyb at h
    rw [Bool.or_eq_true] at h
    rcases h with h | h
    · obtain ⟨i, h1, h2⟩ := ih h; exact ⟨i, by omega, h2⟩
    · exact ⟨n, by omega, h⟩
theorem anyb_f {f : Nat → Bool} : ∀ {n : Nat}, anyb f n = false → ∀ i, i < n → f i = false := by
  intro n
  induction n with
  | zero => intro _ i h; exact absurd h (Nat.not_lt_zero _)
  | succ n ih =>
    intro h i hi
    unfold anyb at h
    rw [Bool.or_eq_false_iff] at h
    by_cases q : i = n
    · rw [q]; exact h.2
    · exact ih h.1 i (by omega)
section LAS
variable {w : WD}
theorem tkM_lt (h0 : 0 < th w) {who t q p a : Nat} {M : MD} (h : tkM w who t q M p = some a) : a < th w := by
  unfold tkM tkx at h
  split at h
  · cases h
  · exact tk_lt h0 h
theorem tl1_ok (ht10 : th w ≤ 10) (h0 : 0 < th w) {who t q : Nat} {s : MD × Bool} : okM (pe w) s (tl1 w who t q s.1 (pe w), s.2 || anyb (nwM w who t q s.1) (pe w)) := by
  have bit : ∀ p i, i < 32 → bt (tl1 w who t q s.1 (pe w) p) i = (bt (s.1 p) i || (decide (p < pe w) && decide (tkM w who t q s.1 p = some i))) := by
    intro p i hi
    unfold tl1
    by_cases hp : p < pe w
    · rw [if_pos hp]
      cases hk : tkM w who t q s.1 p with
      | none => simp
      | some a =>
        have ha := tkM_lt h0 hk
        show bt (if bt (s.1 p) a = true then _ else _) i = _
        cases hb : bt (s.1 p) a with
        | true =>
          rw [if_pos rfl]
          by_cases e : a = i
          · subst e; simp [hb]
          · simp [e]
        | false =>
          rw [if_neg (by decide), b_or, b_1s (by omega) hi]
          simp only [hp, decide_true, Bool.true_and, Option.some.injEq]
          congr 1
          by_cases e : a = i
          · simp [e]
          · have : ¬ i = a := fun q => e q.symm
            simp [e, this]
    · rw [if_neg hp]; simp [hp]
  refine ⟨fun p i hb => ?_, fun hb => by simp [hb], ?_, fun p i h1 h2 hb => ?_⟩
  · by_cases hi : i < 32
    · show bt (tl1 w who t q s.1 (pe w) p) i = true
      rw [bit p i hi, hb]; rfl
    · rw [b_big (by omega)] at hb; cases hb
  · cases hn : anyb (nwM w who t q s.1) (pe w) with
    | false =>
      refine Or.inl ⟨by simp, ?_⟩
      funext p
      apply b_ext; intro i hi
      show bt (tl1 w who t q s.1 (pe w) p) i = _
      rw [bit p i hi]
      by_cases hp : p < pe w
      · have := anyb_f hn p hp
        unfold nwM at this
        cases hk : tkM w who t q s.1 p with
        | none => simp
        | some a =>
          rw [hk] at this
          have hb : bt (s.1 p) a = true := by simpa using this
          by_cases e : a = i
          · subst e; simp [hb]
          · simp [e]
      · simp [hp]
    | true =>
      obtain ⟨p, hp, hf⟩ := anyb_t hn
      unfold nwM at hf
      cases hk : tkM w who t q s.1 p with
      | none => rw [hk] at hf; cases hf
      | some a =>
        rw [hk] at hf
        have ha := tkM_lt h0 hk
        have hb : bt (s.1 p) a = false := by simpa using hf
        refine Or.inr ⟨by simp, p, a, hp, by omega, hb, ?_⟩
        show bt (tl1 w who t q s.1 (pe w) p) a = true
        rw [bit p a (by omega)]; simp [hp, hk]
  · show bt (tl1 w who t q s.1 (pe w) p) i = false
    rw [bit p i h2, hb]
    by_cases e : tkM w who t q s.1 p = some i
    · have := tkM_lt h0 e; omega
    · simp [e]
theorem tlQ_ok (ht10 : th w ≤ 10) (h0 : 0 < th w) {who t : Nat} {s : MD × Bool} (n : Nat) : okM (pe w) s (tlQ w who t s n) := by
  induction n with
  | zero => exact okM_rfl
  | succ n ih =>
    unfold tlQ; split
    · exact okM_tr ih (tl1_ok ht10 h0)
    · exact ih
theorem tlT_ok (ht10 : th w ≤ 10) (h0 : 0 < th w) {who : Nat} {s : MD × Bool} (n : Nat) : okM (pe w) s (tlT w who s n) := by
  induction n with
  | zero => exact okM_rfl
  | succ n ih => exact okM_tr ih (tlQ_ok ht10 h0 _)
theorem tlP_ok (ht10 : th w ≤ 10) {s : MD × Bool} (n : Nat) : okM (pe w) s (tlP w s n) := by
  induction n with
  | zero => exact okM_rfl
  | succ n ih =>
    unfold tlP; split
    · rcases Nat.eq_zero_or_pos (th w) with q | q
      · rw [q]; exact ih
      · exact okM_tr ih (tlT_ok ht10 q _)
    · exact ih
/-- all that is known by somebody -/
def msM (w : WD) (M : MD) : Nat := sm (fun p => ct (bt (M p)) 10) (pe w)
theorem sm_lt {f h : Nat → Nat} {n j : Nat} (e : ∀ i, i < n → f i ≤ h i) (hj : j < n) (hl : f j < h j) : sm f n < sm h n := by
  induction n with
  | zero => omega
  | succ n ih =>
    show sm f n + f n < sm h n + h n
    have := e n (by omega)
    by_cases q : j = n
    · subst q
      have : sm f j ≤ sm h j := by
        have key : ∀ m, (∀ i, i < m → f i ≤ h i) → sm f m ≤ sm h m := by
          intro m
          induction m with
          | zero => intro _; exact Nat.le_refl _
          | succ m ih => intro e; have := ih (fun i hi => e i (by omega)); have := e m (by omega); show sm f m + f m ≤ sm h m + h m; omega
        exact key j fun i hi => e i (by omega)
      omega
    · have := ih (fun i hi => e i (by omega)) (by omega); omega
theorem rdM_more (ht10 : th w ≤ 10) {M : MD} (h : (rdM w M).2 = true) : msM w M < msM w (rdM w M).1 := by
  obtain ⟨h1, -, h3, -⟩ := tlP_ok ht10 (s := (M, false)) (pe w)
  rcases h3 with ⟨e1, -⟩ | ⟨-, p, i, e2, e3, e4, e5⟩
  · have : (rdM w M).2 = false := e1
    rw [this] at h; cases h
  · exact sm_lt (fun r _ => ct_mono fun i _ hb => h1 r i hb) e2 (ct_lt (fun i _ hb => h1 p i hb) e3 e4 e5)
theorem rdM_same (ht10 : th w ≤ 10) {M : MD} (h : (rdM w M).2 = false) : (rdM w M).1 = M := by
  obtain ⟨-, -, h3, -⟩ := tlP_ok ht10 (s := (M, false)) (pe w)
  rcases h3 with ⟨-, e2⟩ | ⟨e1, -⟩
  · exact e2
  · have : (rdM w M).2 = true := e1
    rw [this] at h; cases h
theorem msM_le (hp : pe w ≤ 10) (M : MD) : msM w M ≤ 100 := by
  have := sm_le (f := fun p => ct (bt (M p)) 10) (c := 10) (n := pe w) fun i _ => ct_le _ _
  unfold msM; omega
theorem itM_st (ht10 : th w ≤ 10) {M : MD} {r : Nat} (h : (rdM w (itM w M r)).2 = false) : ∀ n, r ≤ n → itM w M n = itM w M r := by
  intro n
  induction n with
  | zero => intro hn; have : r = 0 := by omega
            rw [this]
  | succ n ih =>
    intro hn
    by_cases q : r = n + 1
    · rw [q]
    · show (rdM w (itM w M n)).1 = _
      rw [ih (by omega)]; exact rdM_same ht10 h
/-- as long as there was more, much is known -/
theorem itM_ms (ht10 : th w ≤ 10) {M : MD} : ∀ n, (∀ r, r < n → (rdM w (itM w M r)).2 = true) → n ≤ msM w (itM w M n) := by
  intro n
  induction n with
  | zero => intro _; exact Nat.zero_le _
  | succ n ih =>
    intro h
    have := ih fun r hr => h r (by omega)
    have h2 := rdM_more ht10 (h n (by omega))
    show n + 1 ≤ msM w (rdM w (itM w M n)).1
    omega
theorem itM_hi (ht10 : th w ≤ 10) {M : MD} (hM : ∀ p i, 10 ≤ i → i < 32 → bt (M p) i = false) (n : Nat) : ∀ p i, 10 ≤ i → i < 32 → bt (itM w M n p) i = false := by
  induction n with
  | zero => exact hM
  | succ n ih => intro p i h1 h2; exact (tlP_ok ht10 (s := (itM w M n, false)) (pe w)).2.2.2 p i h1 h2 (ih p i h1 h2)
end LAS
section CL
variable {g : Gl} {Φ : Out → Mem → Prop} {μ : Mem} {w : WD}
def zL (k j : Nat) : Bool := Nat.beq k 33 || zT k j
theorem zT_L {μ μ' : Mem} (e : Lz zT μ' = Lz zT μ) : Lz zL μ' = Lz zL μ := Lz_up (fun k j h => by unfold zL; rw [h]; simp) e
theorem zL_scr {μ μ' : Mem} (e : Lz zL μ' = Lz zL μ) : Lv μ' = Lv μ := Lz_up (fun k j h => by
  unfold zL zT at h; unfold scr
  rw [Bool.or_eq_true] at h
  rcases h with h | h
  · rw [Nat.eq_of_beq_eq_true h]; rfl
  · revert h
    cases Nat.ble 20 k && Nat.ble k 21 <;> cases (Nat.beq k 15 && Nat.ble 8 j) <;> simp) e
/-- the class's minds -/
def HM (w : WD) (μ : Mem) (M : MD) : Prop := ∀ p, p < pe w → mI μ 33 p = M p
theorem tl1_in {who t q n : Nat} {M : MD} {p : Nat} (h : p < n) : tl1 w who t q M n p = (match tkM w who t q M p with | none => M p | some a => if bt (M p) a then M p else M p ||| ((1 : Int32) <<< (nI a &&& 31))) := if_pos h
theorem tl1_out {who t q n : Nat} {M : MD} {p : Nat} (h : ¬ p < n) : tl1 w who t q M n p = M p := if_neg h
theorem c_tell1 (c : CI μ w) {who t q : Nat} {M : MD} (hM : HM w μ M) (hw : who < pe w) (ht : t < th w) (H : ∀ μ', Lz zL μ' = Lz zL μ → HM w μ' (tl1 w who t q M (pe w)) → Φ (.inl (some (.int (b2i (anyb (nwM w who t q M) (pe w)))))) μ') :
    Spec g i_Sch_tellOne 0 [.ref 3, .int (nI who), .int (nI t), .int (nI q)] μ Φ := by
  have t10 := ci_t10 c
  have p10 := ci_p10 c
  refine spi o_Sch_tellOne rfl (v_Sch_tellOne_0 ?_)
  refine zup (P := fun k => ∀ μ', Lz zL μ' = Lz zL μ → HM w μ' (tl1 w who t q M k) → WW g i_Sch_tellOne 0 Φ 0 0 6 [(0, .ref 3), (1, .int (nI who)), (2, .int (nI t)), (3, .int (nI q)), (4, .int (b2i (anyb (nwM w who t q M) k))), (5, .int (nI k))] [] μ') (pe w) ?_ ?_ μ rfl fun p hp => by rw [tl1_out (Nat.not_lt_zero _)]; exact hM p hp
  · intro μ' e h
    exact v_Sch_tellOne_6 ⟨fun _ => ⟨b2i_or _, H μ' e h⟩, fun h2 => absurd (by rw [ci_pe (c.lv (zL_scr e))]; exact nI_le (Nat.le_refl _) (by omega)) h2⟩
  · intro k hk ih μ' e h
    have c' := c.lv (zL_scr e)
    have vk := vp_in_nI (N := 10) (show k < 10 by omega) (by decide)
    have ekM : mI μ' 33 (nx (nI k)) = M k := by rw [nx_nI (by omega), h k hk, tl1_out (Nat.lt_irrefl k)]
    have hd : anyb (nwM w who t q M) (k + 1) = (anyb (nwM w who t q M) k || nwM w who t q M k) := rfl
    have same : ∀ μ2, Lz zT μ2 = Lz zT μ' → nwM w who t q M k = false → WW g i_Sch_tellOne 0 Φ 0 0 6 [(0, .ref 3), (1, .int (nI who)), (2, .int (nI t)), (3, .int (nI q)), (4, .int (b2i (anyb (nwM w who t q M) k))), (5, .int (nI k + 1))] [] μ2 := by
      intro μ2 e2 hn
      have e33 : mI μ2 33 = mI μ' 33 := rdI e2 fun _ => rfl
      have := ih μ2 ((zT_L e2).trans e) fun p hp => by
        rw [e33, h p hp]
        by_cases q1 : p < k
        · rw [tl1_in q1, tl1_in (by omega)]
        · rw [tl1_out q1]
          by_cases q2 : p = k
          · subst q2
            rw [tl1_in (by omega)]
            unfold nwM at hn
            cases hz : tkM w who t q M p with
            | none => rfl
            | some a => rw [hz] at hn; have : bt (M p) a = true := by simpa using hn
                        simp [this]
          · rw [tl1_out (by omega)]
      rw [hd, hn, Bool.or_false, nI_succ] at this
      exact this
    have step : ∀ b : Bool, b = bt (M k) t → Spec g i_Sch_taken 0 [.ref 3, .int (nI who), .int (nI t), .int (nI q), .int (nI k), .int (b2i b)] μ' (onI (fun r2 μ1 => (r2 = -1 → WW g i_Sch_tellOne 0 Φ 0 0 6 [(0, .ref 3), (1, .int (nI who)), (2, .int (nI t)), (3, .int (nI q)), (4, .int (b2i (anyb (nwM w who t q M) k))), (5, .int (nI k + 1))] [] μ1) ∧ (¬ r2 = -1 → vp_in (nI k) 10 ∧ (¬ (((mI μ1 33 (nx (nI k))) >>> (r2 &&& 31)) &&& 1) = 0 → WW g i_Sch_tellOne 0 Φ 0 0 6 [(0, .ref 3), (1, .int (nI who)), (2, .int (nI t)), (3, .int (nI q)), (4, .int (b2i (anyb (nwM w who t q M) k))), (5, .int (nI k + 1))] [] μ1) ∧ ((((mI μ1 33 (nx (nI k))) >>> (r2 &&& 31)) &&& 1) = 0 → vp_in (nI k) 10 ∧ vp_in (nI k) 10 ∧ WW g i_Sch_tellOne 0 Φ 0 0 6 [(0, .ref 3), (1, .int (nI who)), (2, .int (nI t)), (3, .int (nI q)), (4, .int 1), (5, .int (nI k + 1))] [] (sI μ1 33 (nx (nI k)) ((mI μ1 33 (nx (nI k))) ||| ((1 : Int32) <<< (r2 &&& 31))))))) (fun e μ1 => rtM i_Sch_tellOne Φ (.inr e) 0 0 μ1)) := by
      intro b hb
      refine c_taken c' b (by omega) ht (by omega) fun μ2 e2 => oI ?_
      have ek : tkx w who t q k b = tkM w who t q M k := by unfold tkM; rw [hb]
      rw [ek]
      have e33 : mI μ2 33 = mI μ' 33 := rdI e2 fun _ => rfl
      cases hz : tkM w who t q M k with
      | none => exact ⟨fun _ => same μ2 e2 (by unfold nwM; rw [hz]), fun h => absurd rfl h⟩
      | some a =>
        have ha := tkM_lt (show 0 < th w by omega) hz
        refine ⟨fun h => absurd h (fun e => nI_pos (n := a) (by omega) (by rw [show nI a = -1 from e]; decide)), fun _ => ⟨vk, ?_⟩⟩
        rw [e33, ekM]
        show (¬ ((M k >>> (nI a &&& 31)) &&& 1) = 0 → _) ∧ (((M k >>> (nI a &&& 31)) &&& 1) = 0 → _)
        rw [tb0 (by omega)]
        refine ⟨fun h2 => same μ2 e2 ?_, fun h2 => ⟨vk, vk, ?_⟩⟩
        · rw [Bool.not_eq_false] at h2; unfold nwM; rw [hz]; simp [h2]
        · have hn : nwM w who t q M k = true := by unfold nwM; rw [hz]; simp [h2]
          have := ih (sI μ2 33 (nx (nI k)) (M k ||| ((1 : Int32) <<< (nI a &&& 31)))) ((Lz_I rfl).trans ((zT_L e2).trans e)) fun p hp => by
            rw [rI_I, if_pos rfl, nx_nI (by omega)]
            by_cases q2 : p = k
            · subst q2; rw [upd_s, tl1_in (by omega), hz]; simp [h2]
            · rw [upd_n q2, e33, h p hp]
              by_cases q1 : p < k
              · rw [tl1_in q1, tl1_in (by omega)]
              · rw [tl1_out q1, tl1_out (by omega)]
          rw [hd, hn, Bool.or_true, nI_succ] at this
          exact this
    refine v_Sch_tellOne_6 ⟨fun h2 => absurd h2 (by rw [ci_pe c']; exact nI_ge hk (by omega)), fun _ => ⟨vk, ?_⟩⟩
    rw [ekM, tb0 (by omega)]
    exact ⟨fun h2 => step false h2.symm, fun h2 => step true (by rw [Bool.not_eq_false] at h2; exact h2.symm)⟩
end CL
