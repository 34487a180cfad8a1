/-! the reference's speakers -/
section MH
variable {g : Gl} {Φ : Out → Mem → Prop} {μ : Mem} {w : WD}
def rchF (w : WD) (t p : Nat) : Int32 := orf (fun q => if (!sai w t q) then msk (pe w) (hrf w p t q true) else 0) (wo w t)
theorem or_as (a b c : Int32) : (a ||| b) ||| c = a ||| (b ||| c) := b_ext fun i _ => by rw [b_or, b_or, b_or, b_or, Bool.or_assoc]
theorem rch_hf (h : WFs w) {t p : Nat} (ht : t < 10) : rchF w t p = hf w t (msk 6 (lef w t)) p := by
  have w6 := (wf_wo h ht).2.1
  unfold rchF hf
  refine orf_cong fun q hq => ?_
  have e : bt (msk 6 (lef w t)) q = !sai w t q := by
    rw [b_msk (by omega) (by omega)]; unfold lef; simp [hq]; omega
  rw [e]
  have : msk (pe w) (hrf w p t q true) = tkm w p t q := msk_cong fun i _ => hrf_T
  rw [this]
theorem hrfT_her {p t q i : Nat} (h : hrfT w p t q i = true) : her w i = true := by
  unfold hrfT at h
  rw [decide_eq_true_eq] at h
  unfold tk0 at h
  split at h
  · cases h
  · unfold tk at h
    split at h
    · rename_i h2
      rw [Bool.and_eq_true, Bool.and_eq_true] at h2; exact h2.2.1
    · cases h
theorem spk_eq (h : WFs w) {t : Nat} (ht : t < 10) {s : Int32} :
    decide (msk (pe w) (her w) &&& ((msk (pe w) (fun r => kno w r t) ||| orf (fun p => if bt s p then rchF w t p else 0) (pe w)) ^^^ (-1)) = 0) = decide (((msk (pe w) (fun r => kno w r t) &&& msk (pe w) (her w)) ||| hfa w (hf w t (msk 6 (lef w t))) s) = msk (pe w) (her w)) := by
  have p10 := (wf_pe h).2
  have e : orf (fun p => if bt s p then rchF w t p else 0) (pe w) = hfa w (hf w t (msk 6 (lef w t))) s := by
    unfold hfa
    exact orf_cong fun p _ => by rw [rch_hf h ht]
  rw [e]
  have hY : ∀ i, i < 32 → bt (hfa w (hf w t (msk 6 (lef w t))) s) i = true → i < pe w ∧ her w i = true := by
    intro i hi hx
    obtain ⟨k, h1, h2, h3⟩ := b_hfa.mp hx
    obtain ⟨h4, q, -, -, h5⟩ := (b_hf p10 hi).mp h3
    exact ⟨h4, hrfT_her h5⟩
  generalize hfa w (hf w t (msk 6 (lef w t))) s = Y at *
  rw [Bool.eq_iff_iff, decide_eq_true_eq, decide_eq_true_eq]
  constructor
  · intro hz
    apply b_ext; intro i hi
    have := subm_b.mp (decide_eq_true hz : subm (msk (pe w) (her w)) _ = true) i hi
    rw [b_or, b_and, b_msk (by omega) hi, b_msk (by omega) hi]
    rw [b_or, b_msk (by omega) hi, b_msk (by omega) hi] at this
    cases hb : bt Y i with
    | true => obtain ⟨a, b⟩ := hY i hi hb; simp [a, b]
    | false =>
      rw [hb] at this
      cases hd : (decide (i < pe w) && her w i) with
      | false => simp
      | true => have := this hd; rw [Bool.or_false] at this; rw [this]; rfl
  · intro hz
    refine of_decide_eq_true (subm_b.mpr fun i hi hx => ?_ : subm (msk (pe w) (her w)) _ = true)
    rw [← hz, b_or, b_and, Bool.or_eq_true, Bool.and_eq_true] at hx
    rw [b_or]
    rcases hx with hx | hx
    · rw [hx.1]; rfl
    · rw [hx]; simp
theorem m_spk33 (m : MW μ w) {t : Nat} (ht : t < th w) (H : ∀ μ', Lz zM μ' = Lz zM μ → Φ (.inl (some (.int (ov (spk w t))))) μ') :
    WW g i_Mo_speakers 0 Φ 0 0 33 [(0, .ref 140), (1, .int (nI t)), (2, .int (msk (pe w) (fun r => kno w r t) &&& msk (pe w) (her w))), (3, .int 0)] [] μ := by
  have p10 := (wf_pe m.2.1).2
  have t10 := (wf_th m.2.1).2
  refine zup (P := fun k => ∀ μ', Lz zM μ' = Lz zM μ → (∀ p, p < k → mI μ' 153 p = rchF w t p) → WW g i_Mo_speakers 0 Φ 0 0 33 [(0, .ref 140), (1, .int (nI t)), (2, .int (msk (pe w) (fun r => kno w r t) &&& msk (pe w) (her w))), (3, .int (nI k))] [] μ') (pe w) ?_ ?_ μ rfl fun p h => absurd h (Nat.not_lt_zero _)
  · intro μ' e h153
    have m' := MW_m m e
    have H := H μ' e
    refine v_Mo_speakers_33 (m_pe m' (oI ⟨fun _ => ?_, fun h => absurd (nI_le (Nat.le_refl _) (by omega)) h⟩))
    have hN10 := kh_lt w p10 t
    have eo := nI_num (msk (pe w) (fun r => kno w r t) &&& msk (pe w) (her w))
    have heq := fun s => spk_eq (s := nI s) m'.2.1 (show t < 10 by omega)
    unfold spk at H
    rw [upb_dnb] at H
    have hgd : ∀ s, gspk w t s = (subm (nI s) (msk (pe w) (fun r => kno w r t) &&& msk (pe w) (her w)) && decide (msk (pe w) (her w) &&& ((msk (pe w) (fun r => kno w r t) ||| orf (fun p => if bt (nI s) p then rchF w t p else 0) (pe w)) ^^^ (-1)) = 0)) := by
      intro s; rw [heq]; rfl
    generalize gspk w t = gd at *
    generalize msk (pe w) (fun r => kno w r t) &&& msk (pe w) (her w) = X at *
    generalize hNe : num X = N at *
    have key : ∀ s, s ≤ N + 1 → WW g i_Mo_speakers 0 Φ 0 0 64 [(0, .ref 140), (1, .int (nI t)), (2, .int X), (3, .int (ov (dnb gd sz (N + 1) (N + 1 - s)))), (4, .int (nI s + -1))] [] μ' := by
      intro s
      induction s with
      | zero => intro _; exact v_Mo_speakers_64 ⟨fun _ => H, fun h => absurd (by decide) h⟩
      | succ s ih =>
        intro hs
        have ih := ih (by omega)
        rw [mk_step (by omega)] at ih
        have hg := hgd s
        have hmm := fun (mm : Nat) (h : dnb gd sz (N + 1) (N + 1 - (s + 1)) = some mm) => dnb_some (by omega) h
        generalize dnb gd sz (N + 1) (N + 1 - (s + 1)) = o at *
        rw [nI_back]
        have no : (bno sz s o && gd s) = false → WW g i_Mo_speakers 0 Φ 0 0 64 [(0, .ref 140), (1, .int (nI t)), (2, .int X), (3, .int (ov o)), (4, .int (nI s + -1))] [] μ' := fun h => by
          rw [h] at ih; exact ih
        refine v_Mo_speakers_64 ⟨fun h => absurd h (nI_nlt (a := s) (b := 0) (by omega) (by omega)), fun _ => ⟨fun h => no ?_, fun h => ?_⟩⟩
        · rw [hg]; unfold subm; rw [decide_eq_false h]; simp
        · have hsub : subm (nI s) X = true := decide_eq_true h
          have rest : bno sz s o = true → WW g i_Mo_speakers 0 Φ 0 0 107 [(0, .ref 140), (1, .int (nI t)), (2, .int X), (3, .int (ov o)), (4, .int (nI s)), (5, .int (msk (pe w) (fun r => kno w r t))), (6, .int 0)] [] μ' := by
            intro hb
            have k2 := zup (P := fun k => WW g i_Mo_speakers 0 Φ 0 0 107 [(0, .ref 140), (1, .int (nI t)), (2, .int X), (3, .int (ov o)), (4, .int (nI s)), (5, .int (msk (pe w) (fun r => kno w r t) ||| orf (fun p => if bt (nI s) p then rchF w t p else 0) k)), (6, .int (nI k))] [] μ') (pe w) ?_ ?_
            · rw [show orf (fun p => if bt (nI s) p then rchF w t p else 0) 0 = 0 from rfl, or0] at k2; exact k2
            · refine v_Mo_speakers_107 (m_pe m' (oI ⟨fun _ => m_here m' (oI ⟨fun h2 => no ?_, fun h2 => ?_⟩), fun h => absurd (nI_le (Nat.le_refl _) (by omega)) h⟩))
              · rw [hg, decide_eq_false h2]; simp
              · rw [hb, hg, hsub, decide_eq_true h2] at ih; exact ih
            · intro k hk ihk
              refine v_Mo_speakers_107 (m_pe m' (oI ⟨fun h => absurd h (nI_ge hk (by omega)), fun _ => m_has (by omega) (oI ⟨fun h2 => ?_, fun h2 => ⟨vp_in_nI (by omega) (by decide), ?_⟩⟩)⟩))
              · rw [orf_f (c := bt (nI s)) (f := rchF w t) (b2i_0.mp h2), nI_succ, ← or_as] at ihk; exact ihk
              · rw [orf_t (c := bt (nI s)) (f := rchF w t) (b2i_n0.mp h2), nI_succ, ← or_as] at ihk
                rw [nx_nI (by omega), h153 k hk]; exact ihk
          cases o with
          | none => exact ⟨fun _ => m_knr m' (by omega) (oI (rest rfl)), fun h => absurd (by decide) h⟩
          | some b =>
            have hb := (hmm b rfl).1
            refine ⟨fun h => absurd h (nI_nlt (a := b) (b := 0) (by omega) (by omega)), fun _ => c_bc (oI (c_bc (oI ?_)))⟩
            show (bcF (nI s) ≤ bcF (nI b) → _) ∧ (¬ bcF (nI s) ≤ bcF (nI b) → _)
            rw [bc_all s (by omega), bc_all b (by omega)]
            have a1 := ct_le (bt (nI s)) 10
            have a2 := ct_le (bt (nI b)) 10
            rw [nI_leI (by omega) (by omega)]
            exact ⟨fun h => m_knr m' (by omega) (oI (rest (decide_eq_true h))), fun h => no (by rw [show bno sz s (some b) = false from decide_eq_false h]; rfl)⟩
    have := key (N + 1) (Nat.le_refl _)
    rw [Nat.sub_self, nI_back, eo] at this
    exact this
  · intro k hk ih μ' e h153
    have m' := MW_m m e
    refine v_Mo_speakers_33 (m_pe m' (oI ⟨fun h => absurd h (nI_ge hk (by omega)), fun _ => m_rch m' (by omega) ht fun f => oI ⟨vp_in_nI (by omega) (by decide), ?_⟩⟩))
    rw [← nI_succ]
    refine ih _ ((Lz_I rfl).trans ((Lz_RI fun _ => rfl).trans e)) fun p hp => ?_
    rw [rI_I, if_pos rfl, nx_nI (by omega)]
    by_cases q : p = k
    · rw [q, upd_s]; rfl
    · rw [upd_n q, rI_RI, if_neg (by decide)]; exact h153 p (by omega)
end MH
