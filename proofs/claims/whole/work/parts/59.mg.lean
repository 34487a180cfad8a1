/-! the reference's sets: sources, kept, speakers -/
theorem b_nI {s i : Nat} (hi : i < 32) : bt (nI s) i = s.testBit i := by
  unfold bt
  show (BitVec.ofNat 32 s).getLsbD i = _
  rw [BitVec.getLsbD_ofNat]; simp [hi]
theorem b_nI_lt {s n i : Nat} (h : s < 2 ^ n) (hn : n ≤ i) (hi : i < 32) : bt (nI s) i = false := by
  rw [b_nI hi]; exact Nat.testBit_lt_two_pow (Nat.lt_of_lt_of_le h (Nat.pow_le_pow_right (by decide) hn))
theorem num_and (x y : Int32) : num (x &&& y) = num x &&& num y := by unfold num; rw [Int32.toBitVec_and, BitVec.toNat_and]
theorem subm_b {x y : Int32} : subm x y = true ↔ ∀ i, i < 32 → bt x i = true → bt y i = true := by
  unfold subm
  rw [decide_eq_true_eq]
  constructor
  · intro h i hi hx
    have : bt (x &&& (y ^^^ (-1))) i = bt 0 i := congrArg (fun z => bt z i) h
    rw [b_and, b_not hi, b_0, hx] at this
    simpa using this
  · intro h
    apply b_ext; intro i hi
    rw [b_and, b_not hi, b_0]
    cases hx : bt x i with
    | false => rfl
    | true => rw [h i hi hx]; rfl
theorem subm_le {s : Nat} {y : Int32} (hs : s < 2 ^ 32) (h : subm (nI s) y = true) : s ≤ num y := by
  have e : nI s &&& y = nI s := by
    apply b_ext; intro i hi
    rw [b_and]
    cases hx : bt (nI s) i with
    | false => rfl
    | true => rw [subm_b.mp h i hi hx]; rfl
  have := num_and (nI s) y
  rw [e, num_nI hs] at this
  rw [this]; exact Nat.and_le_right
theorem fo_orf {f : Nat → Int32} {n : Nat} : orf f (n + 1) = orf f n ||| f n := rfl
theorem b_orf {f : Nat → Int32} {i : Nat} : ∀ {n : Nat}, bt (orf f n) i = true ↔ ∃ k, k < n ∧ bt (f k) i = true := by
  intro n
  induction n with
  | zero => rw [show orf f 0 = 0 from rfl, b_0]; simp
  | succ n ih =>
    rw [fo_orf, b_or, Bool.or_eq_true, ih]
    constructor
    · rintro (⟨k, h1, h2⟩ | h)
      · exact ⟨k, by omega, h2⟩
      · exact ⟨n, by omega, h⟩
    · rintro ⟨k, h1, h2⟩
      by_cases q : k = n
      · rw [q] at h2; exact Or.inr h2
      · exact Or.inl ⟨k, by omega, h2⟩
/-- from the greatest set down -/
def dng (good : Nat → Bool) (X : Int32) : Option Nat := dnb good sz (num X + 1) (num X + 1)
theorem dng_up {good good' : Nat → Bool} {X : Int32} {n : Nat} (hn : num X + 1 ≤ n) (h32 : n ≤ 2 ^ 32) (hg : ∀ s, s < n → good s = true → subm (nI s) X = true) (he : ∀ s, s < n → good' s = good s) : upb good' sz n = dng good X := by
  rw [upb_cong he, upb_ext hn, upb_dnb]; rfl
  intro s h1 h2
  cases hs : good s with
  | false => rfl
  | true => have := subm_le (by omega) (hg s h2 hs); omega
section MG
variable {g : Gl} {Φ : Out → Mem → Prop} {μ : Mem} {w : WD}
theorem mk_step {good : Nat → Bool} {N s : Nat} (h : s < N) : dnb good sz N (N - s) = if bno sz s (dnb good sz N (N - (s + 1))) && good s then some s else dnb good sz N (N - (s + 1)) := by
  obtain ⟨d, hd⟩ : ∃ d, N - s = d + 1 := ⟨N - s - 1, by omega⟩
  have e1 : N - (s + 1) = d := by omega
  have e2 : N - 1 - d = s := by omega
  rw [hd, e1]
  show (if bno sz (N - 1 - d) (dnb good sz N d) && good (N - 1 - d) then _ else _) = _
  rw [e2]
theorem nI_back (s : Nat) : nI (s + 1) + -1 = nI s := by rw [nI_succ]; grind
theorem allx {t : Nat} (ht : t < 32) {n : Nat} (hn : n ≤ 31) : (((1 : Int32) <<< (nI n &&& 31)) - 1) &&& (((1 : Int32) <<< (nI t &&& 31)) ^^^ (-1)) = msk n (fun r => !decide (r = t)) := by
  apply msk_ext (by omega); intro i hi
  rw [b_and, b_not hi, b_1s ht hi, b_full (by omega) hi]
theorem m_src (m : MW μ w) {t : Nat} (ht : t < th w) (H : Φ (.inl (some (.int (ov (src w t))))) μ) : Spec g i_Mo_sourcesOf 0 [.ref 140, .int (nI t)] μ Φ := by
  have t10 := (wf_th m.2.1).2
  have hlt : num (msk (th w) (fun r => !decide (r = t))) < 2 ^ th w := num_lt (by omega) fun i h1 h2 => by rw [b_msk (by omega) h2]; simp; omega
  have p10 := pow10 t10
  have eo := nI_num (msk (th w) (fun r => !decide (r = t)))
  have hsrc : src w t = dng (fun s => subm (nI s) (msk (th w) (fun r => !decide (r = t))) && bt (clo w 10 (nI s)) t) (msk (th w) (fun r => !decide (r = t))) := by
    refine dng_up (by omega) (by omega) (fun s h1 h2 => by rw [Bool.and_eq_true] at h2; exact h2.1) fun s hs => ?_
    unfold gsrc
    congr 1
    rw [Bool.eq_iff_iff, subm_b]
    constructor
    · intro h i hi hx
      rw [b_msk (by omega) hi]
      have : i < th w := by
        rcases Nat.lt_or_ge i (th w) with q | q
        · exact q
        · rw [b_nI_lt hs q hi] at hx; cases hx
      have : ¬ i = t := fun q => by rw [q] at hx; rw [hx] at h; cases h
      simp [*]
    · intro h
      cases hx : bt (nI s) t with
      | false => rfl
      | true => have := h t (by omega) hx
                rw [b_msk (by omega) (by omega)] at this; simp at this
  rw [hsrc] at H
  unfold dng at H
  refine spi o_Mo_sourcesOf rfl (v_Mo_sourcesOf_0 (m_th m (oI ?_)))
  rw [allx (by omega) (by omega)]
  generalize msk (th w) (fun r => !decide (r = t)) = X at *
  generalize hN : num X = N at *
  generalize hgd : (fun s => subm (nI s) X && bt (clo w 10 (nI s)) t) = gd at *
  have key : ∀ s, s ≤ N + 1 → WW g i_Mo_sourcesOf 0 Φ 0 0 20 [(0, .ref 140), (1, .int (nI t)), (2, .int X), (3, .int (ov (dnb gd sz (N + 1) (N + 1 - s)))), (4, .int (nI s + -1))] [] μ := by
    intro s
    induction s with
    | zero => intro _; exact v_Mo_sourcesOf_20 ⟨fun _ => H, fun h => absurd (by decide) h⟩
    | succ s ih =>
      intro hs
      have ih := ih (by omega)
      rw [mk_step (by omega)] at ih
      have hg : gd s = (subm (nI s) X && bt (clo w 10 (nI s)) t) := by rw [← hgd]
      have hmm := fun (mm : Nat) (h : dnb gd sz (N + 1) (N + 1 - (s + 1)) = some mm) => dnb_some (by omega) h
      generalize dnb gd sz (N + 1) (N + 1 - (s + 1)) = o at *
      rw [nI_back]
      have no : (bno sz s o && gd s) = false → WW g i_Mo_sourcesOf 0 Φ 0 0 20 [(0, .ref 140), (1, .int (nI t)), (2, .int X), (3, .int (ov o)), (4, .int (nI s + -1))] [] μ := fun h => by
        rw [h] at ih; exact ih
      refine v_Mo_sourcesOf_20 ⟨fun h => absurd h (nI_nlt (a := s) (b := 0) (by omega) (by omega)), fun _ => ⟨fun h => no ?_, fun h => ?_⟩⟩
      · rw [hg]; unfold subm; rw [decide_eq_false h]; simp
      · have hsub : subm (nI s) X = true := decide_eq_true h
        have rest : bno sz s o = true → Spec g i_Mo_closes 0 [.ref 140, .int (nI s)] μ (onI (fun r10 μ9 => Spec g i_Mo_has 0 [.int r10, .int (nI t)] μ9 (onI (fun r12 μ11 => (r12 = 0 → WW g i_Mo_sourcesOf 0 Φ 0 0 20 [(0, .ref 140), (1, .int (nI t)), (2, .int X), (3, .int (ov o)), (4, .int (nI s + -1))] [] μ11) ∧ (¬ r12 = 0 → WW g i_Mo_sourcesOf 0 Φ 0 0 20 [(0, .ref 140), (1, .int (nI t)), (2, .int X), (3, .int (nI s)), (4, .int (nI s + -1))] [] μ11)) (fun e μ1 => rtM i_Mo_sourcesOf Φ (.inr e) 0 0 μ1))) (fun e μ1 => rtM i_Mo_sourcesOf Φ (.inr e) 0 0 μ1)) := by
          intro hb
          refine m_clo m (fun i h1 h2 => b_nI_lt (n := 10) (by omega) h1 h2) (oI (m_has (by omega) (oI ⟨fun h2 => no ?_, fun h2 => ?_⟩)))
          · rw [hg, b2i_0.mp h2]; simp
          · rw [hb, hg, hsub, b2i_n0.mp h2] at ih; exact ih
        cases o with
        | none => exact ⟨fun _ => rest rfl, fun h => absurd (by decide) h⟩
        | some b =>
          have hb := (hmm b rfl).1
          refine ⟨fun h => absurd h (nI_nlt (a := b) (b := 0) (by omega) (by omega)), fun _ => c_bc (oI (c_bc (oI ?_)))⟩
          show (bcF (nI s) ≤ bcF (nI b) → _) ∧ (¬ bcF (nI s) ≤ bcF (nI b) → _)
          rw [bc_all s (by omega), bc_all b (by omega)]
          have a1 := ct_le (bt (nI s)) 10
          have a2 := ct_le (bt (nI b)) 10
          rw [nI_leI (by omega) (by omega)]
          exact ⟨fun h => rest (decide_eq_true h), fun h => no (by rw [show bno sz s (some b) = false from decide_eq_false h]; rfl)⟩
  have := key (N + 1) (Nat.le_refl _)
  rw [Nat.sub_self, nI_back, eo] at this
  exact this
theorem rsp_in {T : Nat → Int32} {A x : Int32} {k i : Nat} (h1 : bt x k = true) (h2 : bt A k = true) (h3 : bt (T k) i = true) (h4 : bt A i = true) : ∀ m, k < m → bt (rsp T A m x) i = true := by
  intro m
  induction m with
  | zero => intro h; exact absurd h (Nat.not_lt_zero _)
  | succ m ih =>
    intro h
    by_cases q : k = m
    · subst q
      have hd : rsp T A (k + 1) x = if bt (rsp T A k x &&& A) k then rsp T A k x ||| (T k &&& A) else rsp T A k x ||| 0 := rfl
      rw [hd, if_pos (by rw [b_and, rsp_mono h1, h2]; rfl), b_or, b_and, h3, h4]; simp
    · have hd : rsp T A (m + 1) x = if bt (rsp T A m x &&& A) m then rsp T A m x ||| (T m &&& A) else rsp T A m x ||| 0 := rfl
      rw [hd]; split <;> rw [b_or, ih (by omega)] <;> rfl
theorem it_mn {f : Int32 → Int32} {x : Int32} (hm : ∀ b i, bt b i = true → bt (f b) i = true) {i : Nat} (h : bt x i = true) : ∀ n, bt (it f n x) i = true := by
  intro n
  induction n with
  | zero => exact h
  | succ n ih => exact hm _ _ ih
theorem b_hfa {G : Nat → Int32} {x : Int32} {i : Nat} : bt (hfa w G x) i = true ↔ ∃ k, k < pe w ∧ bt x k = true ∧ bt (G k) i = true := by
  unfold hfa
  rw [b_orf]
  constructor
  · rintro ⟨k, h1, h2⟩
    cases hx : bt x k with
    | false => rw [hx, if_neg (by decide), b_0] at h2; cases h2
    | true => rw [hx, if_pos rfl] at h2; exact ⟨k, h1, hx, h2⟩
  · rintro ⟨k, h1, h2, h3⟩
    exact ⟨k, h1, by rw [if_pos h2]; exact h3⟩
theorem spd_mono {G : Nat → Int32} {A b : Int32} {i : Nat} (h : bt b i = true) : bt (spd w G A b) i = true := by unfold spd; rw [b_or, h]; rfl
theorem clos_eq (p10 : pe w ≤ 10) {T G : Nat → Int32} {A K : Int32} (hK : ∀ i, 10 ≤ i → i < 32 → bt K i = false) (hA : ∀ i, pe w ≤ i → i < 32 → bt A i = false)
    (hTG : ∀ k i, k < pe w → i < 32 → bt (T k) i = true → bt (G k) i = true) (hGT : ∀ k i, k < pe w → i < 32 → bt (G k) i = true → bt (T k) i = true ∨ bt K i = true) {i : Nat} (hi : i < 32) (hAi : bt A i = true) :
    bt (it (rsp T A (pe w)) 10 K) i = bt (it (spd w G A) 10 (K &&& A)) i := by
  have hA10 : ∀ i, 10 ≤ i → i < 32 → bt A i = false := fun i h1 h2 => hA i (by omega) h2
  have f11 : it (rsp T A (pe w)) 11 K = it (rsp T A (pe w)) 10 K := by
    refine it_10 (fun b i => rsp_mono) fun n => ?_
    induction n with
    | zero => exact hK
    | succ n ih => intro i h1 h2; exact rsp_hi (hA10 i h1 h2) (ih i h1 h2) _
  have cA : ∀ n i, i < 32 → bt (it (spd w G A) n (K &&& A)) i = true → bt A i = true := by
    intro n
    induction n with
    | zero => intro i _ h; rw [show it (spd w G A) 0 (K &&& A) = K &&& A from rfl, b_and, Bool.and_eq_true] at h; exact h.2
    | succ n ih =>
      intro i hi h
      have h : bt (it (spd w G A) n (K &&& A) ||| (hfa w G (it (spd w G A) n (K &&& A)) &&& A)) i = true := h
      rw [b_or, b_and, Bool.or_eq_true, Bool.and_eq_true] at h
      rcases h with h | h
      · exact ih i hi h
      · exact h.2
  have c11 : it (spd w G A) 11 (K &&& A) = it (spd w G A) 10 (K &&& A) := by
    refine it_10 (fun b i => spd_mono) fun n i h1 h2 => ?_
    cases hx : bt (it (spd w G A) n (K &&& A)) i with
    | false => rfl
    | true => have := cA n i h2 hx; rw [hA10 i h1 h2] at this; cases this
  have fcl : ∀ k i, k < pe w → bt (it (rsp T A (pe w)) 10 K) k = true → bt A k = true → bt (T k) i = true → bt A i = true → bt (it (rsp T A (pe w)) 10 K) i = true := by
    intro k i hk h1 h2 h3 h4
    rw [← f11]
    exact rsp_in h1 h2 h3 h4 _ hk
  have ccl : ∀ k i, k < pe w → bt (it (spd w G A) 10 (K &&& A)) k = true → bt (G k) i = true → bt A i = true → bt (it (spd w G A) 10 (K &&& A)) i = true := by
    intro k i hk h1 h2 h3
    rw [← c11]
    show bt (it (spd w G A) 10 (K &&& A) ||| (hfa w G (it (spd w G A) 10 (K &&& A)) &&& A)) i = true
    rw [b_or, b_and, b_hfa.mpr ⟨k, hk, h1, h2⟩, h3]; simp
  have one : ∀ n i, i < 32 → bt (it (spd w G A) n (K &&& A)) i = true → bt (it (rsp T A (pe w)) 10 K) i = true := by
    intro n
    induction n with
    | zero =>
      intro i _ h
      rw [show it (spd w G A) 0 (K &&& A) = K &&& A from rfl, b_and, Bool.and_eq_true] at h
      exact it_mn (fun b i => rsp_mono) h.1 10
    | succ n ih =>
      intro i hi h
      have h : bt (it (spd w G A) n (K &&& A) ||| (hfa w G (it (spd w G A) n (K &&& A)) &&& A)) i = true := h
      rw [b_or, b_and, Bool.or_eq_true, Bool.and_eq_true] at h
      rcases h with h | ⟨h, hAi⟩
      · exact ih i hi h
      · obtain ⟨k, h1, h2, h3⟩ := b_hfa.mp h
        rcases hGT k i h1 hi h3 with q | q
        · exact fcl k i h1 (ih k (by omega) h2) (cA n k (by omega) h2) q hAi
        · exact it_mn (fun b i => rsp_mono) q 10
  have two : ∀ n i, i < 32 → bt (it (rsp T A (pe w)) n K) i = true → bt A i = true → bt (it (spd w G A) 10 (K &&& A)) i = true := by
    intro n
    induction n with
    | zero => intro i _ h1 h2; exact it_mn (fun b i => spd_mono) (by rw [b_and, h2, show bt K i = true from h1]; rfl) 10
    | succ n ih =>
      have inn : ∀ m, m ≤ pe w → ∀ i, i < 32 → bt (rsp T A m (it (rsp T A (pe w)) n K)) i = true → bt A i = true → bt (it (spd w G A) 10 (K &&& A)) i = true := by
        intro m
        induction m with
        | zero => intro _ i hi h1 h2; exact ih i hi h1 h2
        | succ m ihm =>
          intro hm i hi h1 h2
          have hd : rsp T A (m + 1) (it (rsp T A (pe w)) n K) = if bt (rsp T A m (it (rsp T A (pe w)) n K) &&& A) m then rsp T A m (it (rsp T A (pe w)) n K) ||| (T m &&& A) else rsp T A m (it (rsp T A (pe w)) n K) ||| 0 := rfl
          rw [hd] at h1
          split at h1
          · rename_i hb
            rw [b_or, b_and, Bool.or_eq_true, Bool.and_eq_true] at h1
            rcases h1 with h1 | ⟨h1, -⟩
            · exact ihm (by omega) i hi h1 h2
            · rw [b_and, Bool.and_eq_true] at hb
              exact ccl m i (by omega) (ihm (by omega) m (by omega) hb.1 hb.2) (hTG m i (by omega) hi h1) h2
          · rw [b_or, b_0, Bool.or_false] at h1
            exact ihm (by omega) i hi h1 h2
      intro i hi h1 h2
      exact inn (pe w) (Nat.le_refl _) i hi h1 h2
  rw [Bool.eq_iff_iff]
  exact ⟨fun h => two 10 i hi h hAi, fun h => one 10 i hi h⟩
theorem hrf_T {p t q i : Nat} : hrf w p t q true i = hrfT w p t q i := by
  unfold hrf hrfT
  cases tk0 w p t q i with
  | none => rfl
  | some a => simp
theorem b_tch (p10 : pe w ≤ 10) {t k i : Nat} (hi : i < 32) : bt (tch w t k) i = true ↔ i < pe w ∧ kno w i t = false ∧ ∃ q, q < wo w t ∧ hrfT w k t q i = true := by
  unfold tch
  rw [b_orf]
  constructor
  · rintro ⟨q, h1, h2⟩
    unfold rgt at h2
    rw [b_and, b_not hi, b_msk (by omega) hi, b_msk (by omega) hi] at h2
    by_cases e : i < pe w
    · rw [hrf_T] at h2
      simp only [e, decide_true, Bool.true_and, Bool.and_eq_true, Bool.not_eq_true'] at h2
      exact ⟨e, h2.2, q, h1, h2.1⟩
    · simp [e] at h2
  · rintro ⟨h1, h2, q, h3, h4⟩
    refine ⟨q, h3, ?_⟩
    unfold rgt
    rw [b_and, b_not hi, b_msk (by omega) hi, b_msk (by omega) hi, hrf_T, h4, h2]
    simp [h1]
theorem b_hf (p10 : pe w ≤ 10) {x : Int32} {t k i : Nat} (hi : i < 32) : bt (hf w t x k) i = true ↔ i < pe w ∧ ∃ q, q < wo w t ∧ bt x q = true ∧ hrfT w k t q i = true := by
  unfold hf
  rw [b_orf]
  constructor
  · rintro ⟨q, h1, h2⟩
    cases hx : bt x q with
    | false => rw [hx, if_neg (by decide), b_0] at h2; cases h2
    | true =>
      rw [hx, if_pos rfl] at h2
      unfold tkm at h2
      rw [b_msk (by omega) hi, Bool.and_eq_true, decide_eq_true_eq] at h2
      exact ⟨h2.1, q, h1, hx, h2.2⟩
  · rintro ⟨h1, q, h2, h3, h4⟩
    refine ⟨q, h2, ?_⟩
    rw [if_pos h3]; unfold tkm
    rw [b_msk (by omega) hi, h4]; simp [h1]
theorem b63 : ∀ q, q < 6 → bt 63 q = true := by decide +kernel
theorem kep_eq (h : WFs w) {p t : Nat} (hp : p < pe w) (ht : t < th w) (hk : kno w p t = false) {s : Nat} (hs : subm (nI s) (oth w p) = true) :
    bt (it (rsp (tch w t) (msk (pe w) (her w) &&& (nI s ^^^ (-1))) (pe w)) 10 (msk (pe w) (fun r => kno w r t))) p = bt (it (spd w (hf w t 63) (msk (pe w) (her w) &&& (nI s ^^^ (-1)))) 10 (msk (pe w) (fun r => kno w r t) &&& (msk (pe w) (her w) &&& (nI s ^^^ (-1))))) p := by
  have p10 := (wf_pe h).2
  have t10 := (wf_th h).2
  have w6 := (wf_wo h (show t < 10 by omega)).2.1
  have bA : ∀ i, i < 32 → bt (msk (pe w) (her w) &&& (nI s ^^^ (-1))) i = ((decide (i < pe w) && her w i) && !bt (nI s) i) := fun i hi => by rw [b_and, b_not hi, b_msk (by omega) hi]
  have bK : ∀ i, i < 32 → bt (msk (pe w) (fun r => kno w r t)) i = (decide (i < pe w) && kno w i t) := fun i hi => b_msk (by omega) hi
  have hp0 : bt (nI s) p = false := by
    cases hx : bt (nI s) p with
    | false => rfl
    | true =>
      have := subm_b.mp hs p (by omega) hx
      unfold oth at this
      rw [b_and, b_not (by omega), b_1s (by omega) (by omega)] at this
      simp at this
  cases hh : her w p with
  | true =>
    refine clos_eq p10 (fun i h1 h2 => by rw [bK i h2]; simp; omega) (fun i h1 h2 => by rw [bA i h2]; simp; omega) (fun k i h1 h2 h3 => ?_) (fun k i h1 h2 h3 => ?_) (by omega) (by rw [bA p (by omega), hp0, hh]; simp [hp])
    · rw [b_tch p10 h2] at h3
      obtain ⟨a, -, q, b, c⟩ := h3
      exact (b_hf p10 h2).mpr ⟨a, q, b, b63 q (by omega), c⟩
    · rw [b_hf p10 h2] at h3
      obtain ⟨a, q, b, -, c⟩ := h3
      cases hkk : kno w i t with
      | true => refine Or.inr ?_; rw [bK i h2, hkk]; simp [a]
      | false => exact Or.inl ((b_tch p10 h2).mpr ⟨a, hkk, q, b, c⟩)
  | false =>
    have hA : bt (msk (pe w) (her w) &&& (nI s ^^^ (-1))) p = false := by rw [bA p (by omega), hh]; simp
    have hK : bt (msk (pe w) (fun r => kno w r t)) p = false := by rw [bK p (by omega), hk]; simp
    have l1 : ∀ n, bt (it (rsp (tch w t) (msk (pe w) (her w) &&& (nI s ^^^ (-1))) (pe w)) n (msk (pe w) (fun r => kno w r t))) p = false := by
      intro n
      induction n with
      | zero => exact hK
      | succ n ih => exact rsp_hi hA ih _
    have l2 : ∀ n, bt (it (spd w (hf w t 63) (msk (pe w) (her w) &&& (nI s ^^^ (-1)))) n (msk (pe w) (fun r => kno w r t) &&& (msk (pe w) (her w) &&& (nI s ^^^ (-1))))) p = false := by
      intro n
      induction n with
      | zero => show bt (_ &&& _) p = false; rw [b_and, hK]; rfl
      | succ n ih => show bt (_ ||| (_ &&& _)) p = false; rw [b_or, b_and, ih, hA]; simp
    rw [l1, l2]
theorem gk_oth (h : WFs w) {p t : Nat} (hp : p < pe w) (hk : kno w p t = false) : gkep w p t (num (oth w p)) = true := by
  have p10 := (wf_pe h).2
  unfold gkep
  rw [nI_num]
  have e0 : msk (pe w) (fun r => kno w r t) &&& (msk (pe w) (her w) &&& (oth w p ^^^ (-1))) = 0 := by
    apply b_ext; intro i hi
    unfold oth
    rw [b_and, b_and, b_not hi, b_and, b_not hi, b_1s (by omega) hi, b_msk (by omega) hi, b_msk (by omega) hi, b_0]
    by_cases q : i = p
    · subst q; rw [hk]; simp
    · cases her w i <;> simp [q]
  rw [e0]
  have l : ∀ n, it (spd w (hf w t 63) (msk (pe w) (her w) &&& (oth w p ^^^ (-1)))) n 0 = 0 := by
    intro n
    induction n with
    | zero => rfl
    | succ n ih =>
      show spd w _ _ (it _ n 0) = 0
      rw [ih]
      apply b_ext; intro i hi
      unfold spd
      rw [b_or, b_and, b_0]
      cases hx : bt (hfa w (hf w t 63) 0) i with
      | false => rfl
      | true => obtain ⟨k, -, h2, -⟩ := b_hfa.mp hx; rw [b_0] at h2; cases h2
  rw [l, b_0]
  have : subm (oth w p) (oth w p) = true := subm_b.mpr fun i _ h => h
  rw [this]; rfl
theorem m_kep70 (m : MW μ w) {p t : Nat} (hp : p < pe w) (ht : t < th w) (hk : kno w p t = false) (hT : ∀ q, q < pe w → mI μ 153 q = tch w t q) (H : Φ (.inl (some (.int (ov (kep w p t))))) μ) :
    WW g i_Mo_kept 0 Φ 0 0 70 [(0, .ref 140), (1, .int (nI p)), (2, .int (nI t)), (3, .int (oth w p)), (4, .int (oth w p)), (5, .int (oth w p))] [] μ := by
  have p10 := (wf_pe m.2.1).2
  have t10 := (wf_th m.2.1).2
  have hN10 := oth_lt w p10 p
  have hgo := gk_oth m.2.1 hp hk
  have eo := nI_num (oth w p)
  have heq := fun s => kep_eq (s := s) m.2.1 hp ht hk
  unfold kep at H
  rw [upb_dnb] at H
  have hgd : ∀ s, gkep w p t s = (subm (nI s) (oth w p) && !bt (it (rsp (tch w t) (msk (pe w) (her w) &&& (nI s ^^^ (-1))) (pe w)) 10 (msk (pe w) (fun r => kno w r t))) p) := by
    intro s
    unfold gkep
    cases hs : subm (nI s) (oth w p) with
    | false => rfl
    | true => rw [heq s hs]
  have hX10 : ∀ i, 10 ≤ i → i < 32 → bt (oth w p) i = false := fun i h1 h2 => by unfold oth; rw [b_and, b_msk (by omega) h2]; simp; omega
  generalize gkep w p t = gd at *
  generalize oth w p = X at *
  generalize hNe : num X = N at *
  have key : ∀ s, s ≤ N + 1 → WW g i_Mo_kept 0 Φ 0 0 70 [(0, .ref 140), (1, .int (nI p)), (2, .int (nI t)), (3, .int X), (4, .int (nI ((dnb gd sz (N + 1) (N + 1 - s)).getD N))), (5, .int (nI s + -1))] [] μ := by
    intro s
    induction s with
    | zero =>
      intro _
      refine v_Mo_kept_70 ⟨fun _ => ?_, fun h => absurd (by decide) h⟩
      rcases dnb_is (good := gd) (size := sz) (N := N + 1) (N + 1) (Nat.le_refl _) with ⟨-, h2⟩ | ⟨b, h1, -⟩
      · have := h2 N (by omega); rw [hgo] at this; cases this
      · rw [Nat.sub_zero, h1]; rw [h1] at H; exact H
    | succ s ih =>
      intro hs
      have ih := ih (by omega)
      rw [mk_step (by omega)] at ih
      have hg := hgd s
      have hmm := fun (mm : Nat) (h : dnb gd sz (N + 1) (N + 1 - (s + 1)) = some mm) => dnb_some (by omega) h
      generalize dnb gd sz (N + 1) (N + 1 - (s + 1)) = o at *
      rw [nI_back]
      have no : (bno sz s o && gd s) = false → WW g i_Mo_kept 0 Φ 0 0 70 [(0, .ref 140), (1, .int (nI p)), (2, .int (nI t)), (3, .int X), (4, .int (nI (o.getD N))), (5, .int (nI s + -1))] [] μ := fun h => by
        rw [h] at ih; exact ih
      refine v_Mo_kept_70 ⟨fun h => absurd h (nI_nlt (a := s) (b := 0) (by omega) (by omega)), fun _ => ⟨fun h => no ?_, fun h => ?_⟩⟩
      · rw [hg]; unfold subm; rw [decide_eq_false h]; simp
      · have hsub : subm (nI s) X = true := decide_eq_true h
        have hb : o.getD N < 1024 := by
          cases o with
          | none => exact hN10
          | some b => have := (hmm b rfl).1; show b < 1024; omega
        have hbn : decide (sz s ≤ sz (o.getD N)) = bno sz s o := by
          cases o with
          | some b => rfl
          | none =>
            refine decide_eq_true ?_
            show ct (bt (nI s)) 10 ≤ ct (bt (nI N)) 10
            rw [eo]
            exact ct_mono fun i hi hx => subm_b.mp hsub i (by omega) hx
        refine c_bc (oI (c_bc (oI ?_)))
        show (bcF (nI s) ≤ bcF (nI (o.getD N)) → _) ∧ (¬ bcF (nI s) ≤ bcF (nI (o.getD N)) → _)
        rw [bc_all s (by omega), bc_all _ hb]
        have a1 := ct_le (bt (nI s)) 10
        have a2 := ct_le (bt (nI (o.getD N))) 10
        rw [nI_leI (by omega) (by omega)]
        refine ⟨fun h => m_knr m (by omega) (oI (m_here m (oI (m_spr m hT (fun i h1 h2 => ?_) (fun i h1 h2 => ?_) (oI (m_has (by omega) (oI ⟨fun h2 => ?_, fun h2 => no ?_⟩))))))), fun h => no (by rw [← hbn, show decide (sz s ≤ sz (o.getD N)) = false from decide_eq_false h]; rfl)⟩
        · rw [b_msk (by omega) h2]; simp; omega
        · rw [b_and, b_msk (by omega) h2]; simp; omega
        · rw [← hbn, show decide (sz s ≤ sz (o.getD N)) = true from decide_eq_true h, hg, hsub, b2i_0.mp h2] at ih; exact ih
        · rw [hg, b2i_n0.mp h2]; simp
  have := key (N + 1) (Nat.le_refl _)
  rw [Nat.sub_self, nI_back, show (dnb gd sz (N + 1) 0).getD N = N from rfl, eo] at this
  exact this
end MG
