/-! contracts: what follows, sources -/
def sz (s : Nat) : Nat := ct (bt (nI s)) 10
theorem upb_ext {good : Nat → Bool} {size : Nat → Nat} {m : Nat} : ∀ {n : Nat}, m ≤ n → (∀ s, m ≤ s → s < n → good s = false) → upb good size n = upb good size m := by
  intro n
  induction n with
  | zero => intro h _; have : m = 0 := by omega
            rw [this]
  | succ n ih =>
    intro h hg
    by_cases e : m = n + 1
    · rw [e]
    · have hd : upb good size (n + 1) = if bfew size n (upb good size n) && good n then some n else upb good size n := rfl
      rw [hd, if_neg (by rw [hg n (by omega) (by omega)]; simp), ih (by omega) (fun s h1 h2 => hg s h1 (by omega))]
theorem msk_fn : ∀ n, n ≤ 10 → msk n (fun _ => true) = nI (2 ^ n - 1) := by decide +kernel
theorem rst_0 (w : WD) (k : Nat) : rst w k 0 = 0 := by unfold rst; rw [b_0]; rfl
theorem rnd_0 (w : WD) (n : Nat) : rnd w n 0 = 0 := by
  induction n with
  | zero => rfl
  | succ n ih => show rst w n (rnd w n 0) = 0; rw [ih, rst_0]
theorem clo_0 (w : WD) (n : Nat) : clo w n 0 = 0 := by
  induction n with
  | zero => rfl
  | succ n ih => show rnd w (ru w) (clo w n 0) = 0; rw [ih, rnd_0]
section CC
variable {g : Gl} {Φ : Out → Mem → Prop} {μ : Mem} {w : WD}
theorem c_fol (c : CI μ w) {x : Int32} (H : Φ (.inl (some (.int (clo w 10 x)))) μ) : Spec g i_Set_following 0 [.ref 4, .int x] μ Φ := by
  have r12 := (wf_ru c.2.1).2
  refine spi o_Set_following rfl (v_Set_following_0 (zup (P := fun r => WW g i_Set_following 0 Φ 0 0 4 [(0, .ref 4), (2, .int (clo w r x)), (3, .int (nI r))] [] μ) 10 ?_ ?_))
  · exact v_Set_following_4 ⟨fun _ => H, fun h => absurd (nI_le (a := 10) (b := 10) (by decide) (by decide)) h⟩
  · intro r hr ih
    refine v_Set_following_4 ⟨fun h => absurd h (nI_ge (a := r) (b := 10) hr (by decide)), fun _ => ?_⟩
    refine zup (P := fun k => WW g i_Set_following 0 Φ 0 0 16 [(0, .ref 4), (2, .int (rnd w k (clo w r x))), (3, .int (nI r)), (4, .int (clo w r x)), (5, .int (nI k))] [] μ) (ru w) ?_ ?_
    · refine v_Set_following_16 ⟨fun _ => ⟨fun _ => ?_, fun h => ?_⟩, fun h => absurd (by rw [ci_ru c]; exact nI_le (Nat.le_refl _) (by omega)) h⟩
      · rw [nI_succ] at ih; exact ih
      · have e : clo w (r + 1) x = clo w r x := h
        have : rnd w (ru w) (clo w r x) = clo w 10 x := by rw [h]; exact (clo_st e 10 (by omega)).symm
        rw [this]; exact H
    · intro k hk ih2
      have k12 : k < 12 := by omega
      have f0 := wf_rr c.2.1 hk (j := 0) (by decide)
      have f1 := wf_rr c.2.1 hk (j := 1) (by decide)
      have f2 := wf_rr c.2.1 hk (j := 2) (by decide)
      have t10 := ci_t10 c
      have e0 : mI μ 8 (nx (nI k)) = nI (rr w k 0) := by rw [nx_nI (by omega), (ci_rul c k12).1]; exact f0.1
      have e1 : mI μ 9 (nx (nI k)) = nI (rr w k 1) := by rw [nx_nI (by omega), (ci_rul c k12).2.1]; exact f1.1
      have e2 : mI μ 10 (nx (nI k)) = nI (rr w k 2) := by rw [nx_nI (by omega), (ci_rul c k12).2.2]; exact f2.1
      have v := vp_in_nI (N := 12) k12 (by decide)
      refine v_Set_following_16 ⟨fun h => absurd h (by rw [ci_ru c]; exact nI_ge hk (by omega)), fun _ => ⟨v, v, ?_⟩⟩
      rw [e0, e1, e2, need2 (by omega) (by omega)]
      refine ⟨fun h => ?_, fun h => ⟨v, ?_⟩⟩
      · rw [show rnd w (k + 1) (clo w r x) = rnd w k (clo w r x) ||| 0 by show rst w k _ = _; unfold rst; rw [if_neg h], nI_succ] at ih2
        exact ih2
      · rw [show rnd w (k + 1) (clo w r x) = rnd w k (clo w r x) ||| ((1 : Int32) <<< (nI (rr w k 2) &&& 31)) by show rst w k _ = _; unfold rst; rw [if_pos h], nI_succ] at ih2
        exact ih2
theorem c_few {s : Nat} {o : Option Nat} (hs : s < 1024) (ho : ∀ n, o = some n → n < 1024) (H : Φ (.inl (some (.int (b2i (bfew sz s o))))) μ) : Spec g i_Se_isFewer 0 [.int (nI s), .int (ov o)] μ Φ := by
  refine spi o_Se_isFewer rfl (v_Se_isFewer_0 ⟨fun h => ?_, fun h => ?_⟩)
  · cases o with
    | none => exact z11 H
    | some n => exact absurd h (fun e => nI_pos (n := n) (by have := ho n rfl; omega) (by rw [show nI n = -1 from e]; decide))
  · cases o with
    | none => exact absurd rfl h
    | some n =>
      have hn := ho n rfl
      refine c_bc (oI (c_bc (oI ?_)))
      show (bcF (nI n) ≤ bcF (nI s) → _) ∧ (¬ bcF (nI n) ≤ bcF (nI s) → _)
      rw [bc_all n hn, bc_all s hs]
      have a1 := ct_le (bt (nI n)) 10
      have a2 := ct_le (bt (nI s)) 10
      refine ⟨fun h2 => ?_, fun h2 => ?_⟩
      · rw [nI_leI (by omega) (by omega)] at h2
        rw [b2i_f (by unfold bfew sz; simp; exact h2)] at H; exact z01 H
      · rw [nI_leI (by omega) (by omega)] at h2
        rw [b2i_t (by unfold bfew sz; simp; omega)] at H; exact z11 H
/-- a set of which a thing follows that is none of it -/
def gsrc (w : WD) (t s : Nat) : Bool := !bt (nI s) t && bt (clo w 10 (nI s)) t
def src (w : WD) (t : Nat) : Option Nat := upb (gsrc w t) sz (2 ^ th w)
theorem pow10 {n : Nat} (h : n ≤ 10) : 2 ^ n ≤ 1024 := Nat.pow_le_pow_right (by decide) h
theorem c_src (c : CI μ w) {t : Nat} (ht : t < 10) (H : Φ (.inl (some (.int (ov (src w t))))) μ) : Spec g i_Se_sources 0 [.ref 68, .int (nI t)] μ Φ := by
  have t10 := ci_t10 c
  have p10 := pow10 t10
  have pp : 0 < 2 ^ th w := Nat.two_pow_pos _
  have e1 : upb (gsrc w t) sz 1 = none := by
    unfold upb
    rw [if_neg]; · rfl
    · unfold gsrc; rw [show nI 0 = 0 from rfl, clo_0, b_0]; simp
  have key := zupF (P := fun k => WW g i_Se_sources 0 Φ 0 0 4 [(0, .ref 68), (1, .int (nI t)), (2, .int (ov (upb (gsrc w t) sz k))), (3, .int (nI k))] [] μ) 1 (2 ^ th w) pp ?_ ?_
  · rw [e1] at key; exact spi o_Se_sources rfl (v_Se_sources_0 key)
  · refine v_Se_sources_4 (c_all c (oI ?_))
    rw [msk_fn _ t10]
    exact ⟨fun _ => H, fun h => absurd (nI_lt (by omega) (by omega)) h⟩
  · intro k hk1 hk ih
    refine v_Se_sources_4 (c_all c (oI ?_))
    rw [msk_fn _ t10]
    have hup : upb (gsrc w t) sz (k + 1) = if bfew sz k (upb (gsrc w t) sz k) && gsrc w t k then some k else upb (gsrc w t) sz k := rfl
    have hno : (bfew sz k (upb (gsrc w t) sz k) && gsrc w t k) = false → WW g i_Se_sources 0 Φ 0 0 4 [(0, .ref 68), (1, .int (nI t)), (2, .int (ov (upb (gsrc w t) sz k))), (3, .int (nI k + 1))] [] μ := by
      intro e
      rw [hup, if_neg (by rw [e]; decide), nI_succ] at ih; exact ih
    refine ⟨fun h => absurd h (nI_nlt (by omega) (by omega)), fun _ => ⟨fun h => ⟨fun _ => hno ?_, fun h => absurd rfl h⟩, fun h => c_few (by omega) (fun n hn => by have := (upb_some hn).1; omega) (oI ⟨fun h2 => ⟨fun _ => hno ?_, fun h => absurd rfl h⟩, fun h2 => ⟨fun h => absurd h (by decide), fun _ => c_fol c (oI ⟨fun h3 => hno ?_, fun h3 => ?_⟩)⟩⟩)⟩⟩
    · rw [tb0 (by omega), Bool.not_eq_false] at h
      unfold gsrc; rw [h]; simp
    · rw [b2i_0.mp h2]; rfl
    · rw [tb0 (by omega)] at h3
      unfold gsrc; rw [h3]; simp
    · rw [tb0 (by omega)] at h
      rw [tb0 (by omega), Bool.not_eq_false] at h3
      rw [hup, if_pos (by rw [b2i_n0.mp h2]; unfold gsrc; rw [h, h3]; rfl), nI_succ] at ih
      exact ih
end CC
