/-! contracts of the reference: terms, trials -/
section ME
variable {g : Gl} {Φ : Out → Mem → Prop} {μ : Mem} {w : WD}
theorem m_can (m : MW μ w) {p t q : Nat} (hp : p < 10) (ht : 6 * t + q < 60) (H : Φ (.inl (some (.int (b2i (her w p && (kno w p t && !sai w t q)))))) μ) : Spec g i_Mo_canSay 0 [.ref 140, .int (nI p), .int (nI t), .int (nI q)] μ Φ := by
  refine spi o_Mo_canSay rfl (v_Mo_canSay_0 (m_her m hp (oI ⟨fun h => ?_, fun h => m_kn m hp (by omega) (oI ⟨fun h2 => ?_, fun h2 => m_sd m (by omega) (oI ⟨fun h3 => ?_, fun h3 => ?_⟩)⟩)⟩)))
  · rw [b2i_0] at h; rw [h] at H; exact z01 H
  · rw [b2i_0] at h2; rw [h2] at H; rw [b2i_f (by simp)] at H; exact z01 H
  · rw [b2i_n0] at h3; rw [h3] at H; rw [b2i_f (by simp)] at H; exact z01 H
  · rw [b2i_n0] at h h2; rw [b2i_0] at h3; rw [h, h2, h3] at H; exact z11 H
theorem m_fl (m : MW μ w) {t : Nat} (ht : t < 10) (H : Φ (.inl (some (.int (ov (if lo (lef w t) 6 < 6 then some (lo (lef w t) 6) else none))))) μ) : Spec g i_Mo_firstLeft 0 [.ref 140, .int (nI t)] μ Φ := by
  have w6 := (wf_wo m.2.1 ht).2.1
  refine spi o_Mo_firstLeft rfl (v_Mo_firstLeft_0 ?_)
  have key := zup (P := fun k => (∀ i, i < k → lef w t i = false) → WW g i_Mo_firstLeft 0 Φ 0 0 2 [(0, .ref 140), (1, .int (nI t)), (2, .int (nI k))] [] μ) (wo w t) ?_ ?_
  · exact key fun i h => absurd h (Nat.not_lt_zero _)
  · intro hn
    have : lo (lef w t) 6 = 6 := lo_none fun i hi => by
      by_cases q : i < wo w t
      · exact hn i q
      · unfold lef; simp; omega
    rw [this, if_neg (by decide)] at H
    exact v_Mo_firstLeft_2 (m_wo m ht (oI ⟨fun _ => H, fun h => absurd (nI_le (Nat.le_refl _) (by omega)) h⟩))
  · intro k hk ih hn
    refine v_Mo_firstLeft_2 (m_wo m ht (oI ⟨fun h => absurd h (nI_ge hk (by omega)), fun _ => m_sd m (by omega) (oI ⟨fun h => ?_, fun h => ?_⟩)⟩))
    · rw [← nI_succ]; refine ih fun i hi => ?_
      by_cases q : i = k
      · rw [q]; unfold lef; rw [b2i_n0.mp h]; simp
      · exact hn i (by omega)
    · have hl : lef w t k = true := by unfold lef; rw [b2i_0.mp h]; simp [hk]
      have := lo_eq (f := lef w t) (n := 6) (by omega) hl hn
      rw [this, if_pos (by omega)] at H; exact H
theorem m_run (m : MW μ w) {n : Nat} (hn : n < 2 ^ 31) (H : ∀ μ', Lz zW μ' = Lz zW μ → MW μ' (tmW w n).1 → Φ (.inl (some (.int (nI (tmW w n).2)))) μ') : Spec g i_Mo_sayings 0 [.ref 140, .int (nI n)] μ Φ := by
  refine spi o_Mo_sayings rfl (v_Mo_sayings_0 ?_)
  have t10 := (wf_th m.2.1).2
  have p10 := (wf_pe m.2.1).2
  by_cases hq : 0 < pe w ∧ 0 < th w
  · have hp := hq.1
    have ht := hq.2
    unfold tmW at H; rw [if_pos hq] at H
    refine zup (P := fun k => ∀ μ', Lz zW μ' = Lz zW μ → MW μ' (trW w k).1 → WW g i_Mo_sayings 0 Φ 0 0 4 [(0, .ref 140), (1, .int (nI n)), (2, .int (nI (trW w k).2)), (3, .int (nI k))] [] μ') n ?_ ?_ μ rfl m
    · intro μ' e m'
      exact v_Mo_sayings_4 ⟨fun _ => H μ' e m', fun h => absurd (nI_le (Nat.le_refl _) hn) h⟩
    · intro k hk ih μ' e m'
      obtain ⟨i1, i2, i3, i4⟩ := trW_ok m.2 hp ht k
      have epp := suS_pe i2
      have ett := suS_th i2
      rw [trW_s] at ih
      dsimp only at ih
      generalize (trW w k).1 = v at *
      generalize (trW w k).2 = sd at *
      refine v_Mo_sayings_4 ⟨fun h => absurd h (nI_ge hk hn), fun _ => m_pe m' (oI ⟨fun h => absurd h (nI_nle (by omega) (by omega)), fun _ => m_th m' (oI ⟨fun h => absurd h (nI_nle (by omega) (by omega)), fun _ => m_pe m' (oI (m_draw m' (by omega) (by omega) (oI ?_)))⟩)⟩)⟩
      have m1 : MW (sRI μ' 141 (dW v).1) (dW v) := MW_141 (v := dW v) ((mw_l m').trans rfl) (WF_d i1)
      have et1 : th (dW v) = th v := congrArg nx (dW_o (by decide))
      refine m_th m1 (oI (m_draw m1 (by omega) (by omega) (oI ?_)))
      have m2 : MW (sRI (sRI μ' 141 (dW v).1) 141 (dW (dW v)).1) (dW (dW v)) := MW_141 (v := dW (dW v)) ((mw_l m1).trans rfl) (WF_d (WF_d i1))
      have e2 : Lz zW (sRI (sRI μ' 141 (dW v).1) 141 (dW (dW v)).1) = Lz zW μ := zW_141.trans (zW_141.trans e)
      have ep2 : pe (dW (dW v)) = pe v := (congrArg nx (dW_o (by decide))).trans (congrArg nx (dW_o (by decide)))
      have et2 : th (dW (dW v)) = th v := (congrArg nx (dW_o (by decide))).trans (congrArg nx (dW_o (by decide)))
      have ets : tsW v = if lo (lef (dW (dW v)) (drw (nsd ((dW v).1 8)) % th v)) 6 < 6 ∧ (her (dW (dW v)) (drw (nsd (v.1 8)) % pe v) && kno (dW (dW v)) (drw (nsd (v.1 8)) % pe v) (drw (nsd ((dW v).1 8)) % th v)) = true then (sayW (dW (dW v)) (drw (nsd (v.1 8)) % pe v) (drw (nsd ((dW v).1 8)) % th v) (lo (lef (dW (dW v)) (drw (nsd ((dW v).1 8)) % th v)) 6), true) else (dW (dW v), false) := by
        unfold tsW; dsimp only; rw [dW_8, dW_8]
      rw [et1]
      have hwho : drw (nsd (v.1 8)) % pe v < pe v := Nat.mod_lt _ (by omega)
      have hth : drw (nsd ((dW v).1 8)) % th v < th v := Nat.mod_lt _ (by omega)
      generalize drw (nsd (v.1 8)) % pe v = who at *
      generalize drw (nsd ((dW v).1 8)) % th v = t at *
      generalize sRI (sRI μ' 141 (dW v).1) 141 (dW (dW v)).1 = μ2 at *
      generalize dW (dW v) = v2 at *
      refine m_fl m2 (by omega) (oI ?_)
      by_cases hlo : lo (lef v2 t) 6 < 6
      · obtain ⟨q3, q4⟩ := lef_is hlo
        rw [if_pos hlo]
        refine ⟨fun h => absurd h (nI_pos (n := lo (lef v2 t) 6) (by omega)), fun _ => m_can m2 (by omega) (by omega) (oI ⟨fun h => ?_, fun h => ?_⟩)⟩
        · rw [b2i_n0, q4] at h
          have hy : lo (lef v2 t) 6 < 6 ∧ (her v2 who && kno v2 who t) = true := ⟨hlo, by simpa using h⟩
          refine m_so (oI (m_says m2 (by omega) (by omega) q3 q4 fun μ3 e3 m3 => oI ?_))
          have ets1 : tsW v = (sayW v2 who t (lo (lef v2 t) 6), true) := by rw [ets, if_pos hy]
          have := ih μ3 (e3.trans e2) (by rw [ets1]; exact m3)
          rw [ets1] at this
          have h1 : nI (sd + if (sayW v2 who t (lo (lef v2 t) 6), true).2 = true then 1 else 0) = nI sd + 1 := nI_succ sd
          rw [h1, nI_succ] at this
          exact this
        · rw [b2i_0, q4] at h
          have hno : ¬ (her v2 who && kno v2 who t) = true := fun q => by
            rw [Bool.and_eq_true] at q
            rw [q.1, q.2] at h; cases h
          have ets0 : tsW v = (v2, false) := by rw [ets, if_neg (fun q => hno q.2)]
          have := ih μ2 e2 (by rw [ets0]; exact m2)
          rw [ets0, nI_succ] at this
          exact this
      · rw [if_neg hlo]
        refine ⟨fun _ => ?_, fun h => absurd (by decide) h⟩
        have ets0 : tsW v = (v2, false) := by rw [ets, if_neg (fun q => hlo q.1)]
        have := ih μ2 e2 (by rw [ets0]; exact m2)
        rw [ets0, nI_succ] at this
        exact this
  · unfold tmW at H; rw [if_neg hq] at H
    have H' := H μ rfl m
    refine v_Mo_sayings_4 ⟨fun _ => H', fun _ => m_pe m (oI ⟨fun _ => H', fun h => m_th m (oI ⟨fun _ => H', fun h2 => ?_⟩)⟩)⟩
    exfalso
    refine hq ⟨?_, ?_⟩
    · rcases Nat.eq_zero_or_pos (pe w) with q | q
      · rw [q] at h; exact absurd (by decide) h
      · exact q
    · rcases Nat.eq_zero_or_pos (th w) with q | q
      · rw [q] at h2; exact absurd (by decide) h2
      · exact q
/-- the reference's rows of a trial -/
def zK (k j : Nat) : Bool := Nat.beq k 144 || (Nat.beq k 140 && Nat.beq j 9)
theorem m_keep (m : MW μ w) (H : ∀ μ', Lz zK μ' = Lz zK μ → (∀ j, j < 1015 → mI μ' 144 j = w.1 j) → mL μ' 140 9 = w.2 → Φ (.inl none) μ') : Spec g i_Mo_keepsAll 0 [.ref 140] μ Φ := by
  refine spi o_Mo_keepsAll rfl (v_Mo_keepsAll_0 ?_)
  refine zup (P := fun k => ∀ μ', Lz zK μ' = Lz zK μ → (∀ j, j < k → mI μ' 144 j = w.1 j) → WW g i_Mo_keepsAll 0 Φ 0 0 2 [(0, .ref 140), (1, .int (nI k))] [] μ') 1015 ?_ ?_ μ rfl fun j h => absurd h (Nat.not_lt_zero _)
  · intro μ' e h
    have e6 : mL μ' 140 6 = w.2 := (rdL1 e rfl).trans (mw_l m)
    refine v_Mo_keepsAll_2 ⟨fun _ => H _ ((Lz_L rfl).trans e) h ?_, fun h => absurd (nI_le (a := 1015) (b := 1015) (by decide) (by decide)) h⟩
    rw [rL_L, if_pos rfl, updL_s]; exact e6
  · intro k hk ih μ' e h
    have e141 : mI μ' 141 = w.1 := (rdI e fun _ => rfl).trans (mw_i m)
    refine v_Mo_keepsAll_2 ⟨fun h => absurd h (nI_ge (b := 1015) hk (by decide)), fun _ => ⟨vp_in_nI (by omega) (by decide), vp_in_nI hk (by decide), ?_⟩⟩
    rw [nx_nI (by omega), e141, ← nI_succ]
    refine ih _ ((Lz_I rfl).trans e) fun j hj => ?_
    by_cases q : j = k
    · subst q; rw [rI_I, if_pos rfl, upd_s]
    · rw [rI_I, if_pos rfl, upd_n q]; exact h j (by omega)
theorem m_back {v : WD} (hv : ∀ j, j < 1015 → mI μ 144 j = v.1 j) (h9 : mL μ 140 9 = v.2) (hh : ∀ j, 1015 ≤ j → mI μ 141 j = v.1 j) (hw : WF v) (H : ∀ μ', Lz zW μ' = Lz zW μ → MW μ' v → Φ (.inl none) μ') : Spec g i_Mo_bringsBack 0 [.ref 140] μ Φ := by
  refine spi o_Mo_bringsBack rfl (v_Mo_bringsBack_0 ?_)
  refine zup (P := fun k => ∀ f : Nat → Int32, (∀ j, (j < k ∨ 1015 ≤ j) → f j = v.1 j) → WW g i_Mo_bringsBack 0 Φ 0 0 2 [(0, .ref 140), (1, .int (nI k))] [] (sRI μ 141 f)) 1015 ?_ ?_ |> fun key => by
    have := key (mI μ 141) fun j hj => hh j (by omega)
    rw [sRI_self] at this; exact this
  · intro f hf
    refine v_Mo_bringsBack_2 ⟨fun _ => H _ ((Lz_L rfl).trans zW_141) ⟨Prod.ext ?_ ?_, hw⟩, fun h => absurd (nI_le (a := 1015) (b := 1015) (by decide) (by decide)) h⟩
    · show mI (sRI μ 141 f) 141 = v.1
      rw [rI_RI, if_pos rfl]; funext j; exact hf j (by omega)
    · show mL (sL (sRI μ 141 f) 140 6 _) 140 6 = v.2
      rw [rL_L, if_pos rfl, updL_s]; exact h9
  · intro k hk ih f hf
    refine v_Mo_bringsBack_2 ⟨fun h => absurd h (nI_ge (b := 1015) hk (by decide)), fun _ => ⟨vp_in_nI hk (by decide), vp_in_nI (by omega) (by decide), ?_⟩⟩
    rw [nx_nI (by omega), sI_sRI, rI_RI, if_neg (by decide), ← nI_succ]
    refine ih _ fun j hj => ?_
    by_cases q : j = k
    · subst q; rw [upd_s]; exact hv j hk
    · rw [upd_n q]; exact hf j (by omega)
end ME
