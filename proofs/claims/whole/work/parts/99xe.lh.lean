/-! the helpers of the law: the class's call, its throws as numbers; by program (wip/whole/gen_case.py) -/
theorem L_school {g : Gl} {Φ : Out → Mem → Prop} {μ : Mem} (H : Spec g i_SO_school 0 [.ref 0] μ (HK Φ fJ 0 1)) : Spec g i_L_school 0 [.ref 0, .ref 154] μ Φ := by
  refine spi o_L_school rfl (v_L_school_0 (H.mono fun q μ1 h5 h => ?_))
  match q, h with
  | .inl (some (.int r)), h => exact ⟨vp01, h⟩
  | .inr e, h =>
    by_cases z1 : e = 0
    · subst z1; exact h
    · by_cases z2 : e = 1
      · subst z2; exact h
      · exact absurd h (HK_x z1 z2)
theorem L_law {g : Gl} {Φ : Out → Mem → Prop} {μ : Mem} (H : Spec g i_SO_law 0 [.ref 0] μ (HK Φ fJ 0 9)) : Spec g i_L_law 0 [.ref 0, .ref 154] μ Φ := by
  refine spi o_L_law rfl (v_L_law_0 (H.mono fun q μ1 h5 h => ?_))
  match q, h with
  | .inl (some (.int r)), h => exact ⟨vp01, h⟩
  | .inr e, h =>
    by_cases z1 : e = 0
    · subst z1; exact h
    · by_cases z2 : e = 9
      · exact absurd (h5 e rfl) (by omega)
      · exact absurd h (HK_x z1 z2)
theorem L_thing {g : Gl} {Φ : Out → Mem → Prop} {μ : Mem} {a b : Int32} (H : Spec g i_SO_thing 0 [.ref 0, .int a, .int b] μ (HK Φ fJ 2 3)) : Spec g i_L_thing 0 [.ref 0, .int a, .int b, .ref 154] μ Φ := by
  refine spi o_L_thing rfl (v_L_thing_0 (H.mono fun q μ1 h5 h => ?_))
  match q, h with
  | .inl (some (.int r)), h => exact ⟨vp01, h⟩
  | .inr e, h =>
    by_cases z1 : e = 2
    · subst z1; exact h
    · by_cases z2 : e = 3
      · subst z2; exact h
      · exact absurd h (HK_x z1 z2)
theorem L_person {g : Gl} {Φ : Out → Mem → Prop} {μ : Mem} {a b : Int32} (H : Spec g i_SO_person 0 [.ref 0, .int a, .int b] μ (HK Φ fJ 2 3)) : Spec g i_L_person 0 [.ref 0, .int a, .int b, .ref 154] μ Φ := by
  refine spi o_L_person rfl (v_L_person_0 (H.mono fun q μ1 h5 h => ?_))
  match q, h with
  | .inl (some (.int r)), h => exact ⟨vp01, h⟩
  | .inr e, h =>
    by_cases z1 : e = 2
    · subst z1; exact h
    · by_cases z2 : e = 3
      · subst z2; exact h
      · exact absurd h (HK_x z1 z2)
theorem L_rule {g : Gl} {Φ : Out → Mem → Prop} {μ : Mem} {a b : Int32} (H : Spec g i_SO_rule 0 [.ref 0, .int a, .int b] μ (HK Φ fJ 3 9)) : Spec g i_L_rule 0 [.ref 0, .int a, .int b, .ref 154] μ Φ := by
  refine spi o_L_rule rfl (v_L_rule_0 (H.mono fun q μ1 h5 h => ?_))
  match q, h with
  | .inl (some (.int r)), h => exact ⟨vp01, h⟩
  | .inr e, h =>
    by_cases z1 : e = 3
    · subst z1; exact h
    · by_cases z2 : e = 9
      · exact absurd (h5 e rfl) (by omega)
      · exact absurd h (HK_x z1 z2)
theorem L_apart {g : Gl} {Φ : Out → Mem → Prop} {μ : Mem} {a b : Int32} (H : Spec g i_SO_apart 0 [.ref 0, .int a, .int b] μ (HK Φ fJ 2 0)) : Spec g i_L_apart 0 [.ref 0, .int a, .int b, .ref 154] μ Φ := by
  refine spi o_L_apart rfl (v_L_apart_0 (H.mono fun q μ1 h5 h => ?_))
  match q, h with
  | .inl (some (.int r)), h => exact ⟨vp01, h⟩
  | .inr e, h =>
    by_cases z1 : e = 2
    · subst z1; exact h
    · by_cases z2 : e = 0
      · subst z2; exact h
      · exact absurd h (HK_x z1 z2)
theorem L_hears {g : Gl} {Φ : Out → Mem → Prop} {μ : Mem} {a b c d : Int32} (H : Spec g i_SO_hears 0 [.ref 0, .int a, .int b, .int c, .int d] μ (HK Φ fJ 2 0)) : Spec g i_L_hears 0 [.ref 0, .int a, .int b, .int c, .int d, .ref 154] μ Φ := by
  refine spi o_L_hears rfl (v_L_hears_0 (H.mono fun q μ1 h5 h => ?_))
  match q, h with
  | .inl (some (.int r)), h => exact ⟨vp01, h⟩
  | .inr e, h =>
    by_cases z1 : e = 2
    · subst z1; exact h
    · by_cases z2 : e = 0
      · subst z2; exact h
      · exact absurd h (HK_x z1 z2)
theorem L_audience {g : Gl} {Φ : Out → Mem → Prop} {μ : Mem} {a b c d : Int32} (H : Spec g i_SO_audience 0 [.ref 0, .int a, .int b, .int c, .int d] μ (HK Φ fJ 2 9)) : Spec g i_L_audience 0 [.ref 0, .int a, .int b, .int c, .int d, .ref 154] μ Φ := by
  refine spi o_L_audience rfl (v_L_audience_0 (H.mono fun q μ1 h5 h => ?_))
  match q, h with
  | .inl (some (.int r)), h => exact ⟨vp01, h⟩
  | .inr e, h =>
    by_cases z1 : e = 2
    · subst z1; exact h
    · by_cases z2 : e = 9
      · exact absurd (h5 e rfl) (by omega)
      · exact absurd h (HK_x z1 z2)
theorem L_say {g : Gl} {Φ : Out → Mem → Prop} {μ : Mem} {a b c : Int32} (H : Spec g i_SO_say 0 [.ref 0, .int a, .int b, .int c] μ (HK Φ fJ 2 4)) : Spec g i_L_say 0 [.ref 0, .int a, .int b, .int c, .ref 154] μ Φ := by
  refine spi o_L_say rfl (v_L_say_0 (H.mono fun q μ1 h5 h => ?_))
  match q, h with
  | .inl (some (.int r)), h => exact ⟨vp01, h⟩
  | .inr e, h =>
    by_cases z1 : e = 2
    · subst z1; exact h
    · by_cases z2 : e = 4
      · subst z2; exact h
      · exact absurd h (HK_x z1 z2)
theorem L_think {g : Gl} {Φ : Out → Mem → Prop} {μ : Mem} {a : Int32} (H : Spec g i_SO_think 0 [.ref 0, .int a] μ (HK Φ fJ 2 9)) : Spec g i_L_think 0 [.ref 0, .int a, .ref 154] μ Φ := by
  refine spi o_L_think rfl (v_L_think_0 (H.mono fun q μ1 h5 h => ?_))
  match q, h with
  | .inl (some (.int r)), h => exact ⟨vp01, h⟩
  | .inr e, h =>
    by_cases z1 : e = 2
    · subst z1; exact h
    · by_cases z2 : e = 9
      · exact absurd (h5 e rfl) (by omega)
      · exact absurd h (HK_x z1 z2)
theorem L_away {g : Gl} {Φ : Out → Mem → Prop} {μ : Mem} {a b : Int32} (H : Spec g i_SO_away 0 [.ref 0, .int a, .int b] μ (HK Φ fB 2 9)) : Spec g i_L_away 0 [.ref 0, .int a, .int b, .ref 154] μ Φ := by
  refine spi o_L_away rfl (v_L_away_0 (H.mono fun q μ1 h5 h => ?_))
  match q, h with
  | .inl (some (.int r)), h => exact ⟨fun z => ⟨vp01, by have h9 : Φ (.inl (some (.int (0 : Int32)))) (sL μ1 154 (nx (0 : Int32)) (fB r)) := h; rw [show fB r = 0 from if_pos z] at h9; exact h9⟩, fun z => ⟨vp01, by have h9 : Φ (.inl (some (.int (0 : Int32)))) (sL μ1 154 (nx (0 : Int32)) (fB r)) := h; rw [show fB r = 1 from if_neg z] at h9; exact h9⟩⟩
  | .inr e, h =>
    by_cases z1 : e = 2
    · subst z1; exact h
    · by_cases z2 : e = 9
      · exact absurd (h5 e rfl) (by omega)
      · exact absurd h (HK_x z1 z2)
theorem L_change {g : Gl} {Φ : Out → Mem → Prop} {μ : Mem} {a b : Int32} (H : Spec g i_SO_change 0 [.ref 0, .int a, .int b] μ (HK Φ fJ 2 0)) : Spec g i_L_change 0 [.ref 0, .int a, .int b, .ref 154] μ Φ := by
  refine spi o_L_change rfl (v_L_change_0 (H.mono fun q μ1 h5 h => ?_))
  match q, h with
  | .inl (some (.int r)), h => exact ⟨vp01, h⟩
  | .inr e, h =>
    by_cases z1 : e = 2
    · subst z1; exact h
    · by_cases z2 : e = 0
      · subst z2; exact h
      · exact absurd h (HK_x z1 z2)
theorem L_term {g : Gl} {Φ : Out → Mem → Prop} {μ : Mem} {a : Int32} (H : Spec g i_SO_term 0 [.ref 0, .int a] μ (HK Φ fJ 0 9)) : Spec g i_L_term 0 [.ref 0, .int a, .ref 154] μ Φ := by
  refine spi o_L_term rfl (v_L_term_0 (H.mono fun q μ1 h5 h => ?_))
  match q, h with
  | .inl (some (.int r)), h => exact ⟨vp01, h⟩
  | .inr e, h =>
    by_cases z1 : e = 0
    · subst z1; exact h
    · by_cases z2 : e = 9
      · exact absurd (h5 e rfl) (by omega)
      · exact absurd h (HK_x z1 z2)
theorem L_plan {g : Gl} {Φ : Out → Mem → Prop} {μ : Mem} {a b : Int32} (H : Spec g i_SO_plan 0 [.ref 0, .int a, .int b] μ (HK Φ fJ 2 9)) : Spec g i_L_plan 0 [.ref 0, .int a, .int b, .ref 154] μ Φ := by
  refine spi o_L_plan rfl (v_L_plan_0 (H.mono fun q μ1 h5 h => ?_))
  match q, h with
  | .inl (some (.int r)), h => exact ⟨vp01, h⟩
  | .inr e, h =>
    by_cases z1 : e = 2
    · subst z1; exact h
    · by_cases z2 : e = 9
      · exact absurd (h5 e rfl) (by omega)
      · exact absurd h (HK_x z1 z2)
theorem L_kept {g : Gl} {Φ : Out → Mem → Prop} {μ : Mem} {a b : Int32} (H : Spec g i_SO_kept 0 [.ref 0, .int a, .int b] μ (HK Φ fJ 2 9)) : Spec g i_L_kept 0 [.ref 0, .int a, .int b, .ref 154] μ Φ := by
  refine spi o_L_kept rfl (v_L_kept_0 (H.mono fun q μ1 h5 h => ?_))
  match q, h with
  | .inl (some (.int r)), h => exact ⟨vp01, h⟩
  | .inr e, h =>
    by_cases z1 : e = 2
    · subst z1; exact h
    · by_cases z2 : e = 9
      · exact absurd (h5 e rfl) (by omega)
      · exact absurd h (HK_x z1 z2)
theorem L_seats {g : Gl} {Φ : Out → Mem → Prop} {μ : Mem} {a b c d : Int32} (H : Spec g i_SO_seats 0 [.ref 0, .int a, .int b, .int c, .int d] μ (HK Φ fJ 2 9)) : Spec g i_L_seats 0 [.ref 0, .int a, .int b, .int c, .int d, .ref 154] μ Φ := by
  refine spi o_L_seats rfl (v_L_seats_0 (H.mono fun q μ1 h5 h => ?_))
  match q, h with
  | .inl (some (.int r)), h => exact ⟨vp01, h⟩
  | .inr e, h =>
    by_cases z1 : e = 2
    · subst z1; exact h
    · by_cases z2 : e = 9
      · exact absurd (h5 e rfl) (by omega)
      · exact absurd h (HK_x z1 z2)
theorem L_what {g : Gl} {Φ : Out → Mem → Prop} {μ : Mem} {a : Int32} (H : Spec g i_SO_what 0 [.ref 0, .int a] μ (HKl Φ 2 0)) : Spec g i_L_what 0 [.ref 0, .int a, .ref 154] μ Φ := by
  refine spi o_L_what rfl (v_L_what_0 (H.mono fun q μ1 h5 h => ?_))
  match q, h with
  | .inl (some (.long r)), h => exact ⟨vp01, h⟩
  | .inr e, h =>
    by_cases z1 : e = 2
    · subst z1; exact h
    · by_cases z2 : e = 0
      · subst z2; exact h
      · exact absurd h (HKl_x z1 z2)
theorem L_alike {g : Gl} {Φ : Out → Mem → Prop} {μ : Mem} {a b : Int32} (H : Spec g i_SO_alike 0 [.ref 0, .int a, .int b] μ (HK Φ fJ 2 0)) : Spec g i_L_alike 0 [.ref 0, .int a, .int b, .ref 154] μ Φ := by
  refine spi o_L_alike rfl (v_L_alike_0 (H.mono fun q μ1 h5 h => ?_))
  match q, h with
  | .inl (some (.int r)), h => exact ⟨vp01, h⟩
  | .inr e, h =>
    by_cases z1 : e = 2
    · subst z1; exact h
    · by_cases z2 : e = 0
      · subst z2; exact h
      · exact absurd h (HK_x z1 z2)
theorem L_ask {g : Gl} {Φ : Out → Mem → Prop} {μ : Mem} {a b : Int32} (H : Spec g i_SO_ask 0 [.ref 0, .int a, .int b] μ (HK Φ fJ 2 0)) : Spec g i_L_ask 0 [.ref 0, .int a, .int b, .ref 154] μ Φ := by
  refine spi o_L_ask rfl (v_L_ask_0 (H.mono fun q μ1 h5 h => ?_))
  match q, h with
  | .inl (some (.int r)), h => exact ⟨vp01, h⟩
  | .inr e, h =>
    by_cases z1 : e = 2
    · subst z1; exact h
    · by_cases z2 : e = 0
      · subst z2; exact h
      · exact absurd h (HK_x z1 z2)
theorem L_keeps {g : Gl} {Φ : Out → Mem → Prop} {μ : Mem} {a b : Int32} (H : Spec g i_SO_keeps 0 [.ref 0, .int a, .int b] μ (HK Φ fB 2 0)) : Spec g i_L_keeps 0 [.ref 0, .int a, .int b, .ref 154] μ Φ := by
  refine spi o_L_keeps rfl (v_L_keeps_0 (H.mono fun q μ1 h5 h => ?_))
  match q, h with
  | .inl (some (.int r)), h => exact ⟨fun z => ⟨vp01, by have h9 : Φ (.inl (some (.int (0 : Int32)))) (sL μ1 154 (nx (0 : Int32)) (fB r)) := h; rw [show fB r = 0 from if_pos z] at h9; exact h9⟩, fun z => ⟨vp01, by have h9 : Φ (.inl (some (.int (0 : Int32)))) (sL μ1 154 (nx (0 : Int32)) (fB r)) := h; rw [show fB r = 1 from if_neg z] at h9; exact h9⟩⟩
  | .inr e, h =>
    by_cases z1 : e = 2
    · subst z1; exact h
    · by_cases z2 : e = 0
      · subst z2; exact h
      · exact absurd h (HK_x z1 z2)
theorem L_margin {g : Gl} {Φ : Out → Mem → Prop} {μ : Mem} {a b : Int32} (H : Spec g i_SO_margin 0 [.ref 0, .int a, .int b] μ (HK Φ fJ 2 0)) : Spec g i_L_margin 0 [.ref 0, .int a, .int b, .ref 154] μ Φ := by
  refine spi o_L_margin rfl (v_L_margin_0 (H.mono fun q μ1 h5 h => ?_))
  match q, h with
  | .inl (some (.int r)), h => exact ⟨vp01, h⟩
  | .inr e, h =>
    by_cases z1 : e = 2
    · subst z1; exact h
    · by_cases z2 : e = 0
      · subst z2; exact h
      · exact absurd h (HK_x z1 z2)
theorem L_call {g : Gl} {Φ : Out → Mem → Prop} {μ : Mem} {a b : Int32} (H : Spec g i_SO_call 0 [.ref 0, .int a, .int b] μ (HK Φ fJ 2 9)) : Spec g i_L_call 0 [.ref 0, .int a, .int b, .ref 154] μ Φ := by
  refine spi o_L_call rfl (v_L_call_0 (H.mono fun q μ1 h5 h => ?_))
  match q, h with
  | .inl (some (.int r)), h => exact ⟨vp01, h⟩
  | .inr e, h =>
    by_cases z1 : e = 2
    · subst z1; exact h
    · by_cases z2 : e = 9
      · exact absurd (h5 e rfl) (by omega)
      · exact absurd h (HK_x z1 z2)
theorem L_trial {g : Gl} {Φ : Out → Mem → Prop} {μ : Mem} {a b : Int32} (H : Spec g i_SO_trial 0 [.ref 0, .int a, .int b] μ (HK Φ fJ 2 0)) : Spec g i_L_trial 0 [.ref 0, .int a, .int b, .ref 154] μ Φ := by
  refine spi o_L_trial rfl (v_L_trial_0 (H.mono fun q μ1 h5 h => ?_))
  match q, h with
  | .inl (some (.int r)), h => exact ⟨vp01, h⟩
  | .inr e, h =>
    by_cases z1 : e = 2
    · subst z1; exact h
    · by_cases z2 : e = 0
      · subst z2; exact h
      · exact absurd h (HK_x z1 z2)
theorem L_span {g : Gl} {Φ : Out → Mem → Prop} {μ : Mem} {a b : Int32} (H : Spec g i_SO_span 0 [.ref 0, .int a, .int b] μ (HK Φ fJ 0 9)) : Spec g i_L_span 0 [.ref 0, .int a, .int b, .ref 154] μ Φ := by
  refine spi o_L_span rfl (v_L_span_0 (H.mono fun q μ1 h5 h => ?_))
  match q, h with
  | .inl (some (.int r)), h => exact ⟨vp01, h⟩
  | .inr e, h =>
    by_cases z1 : e = 0
    · subst z1; exact h
    · by_cases z2 : e = 9
      · exact absurd (h5 e rfl) (by omega)
      · exact absurd h (HK_x z1 z2)
theorem L_how {g : Gl} {Φ : Out → Mem → Prop} {μ : Mem} {a b : Int32} (H : Spec g i_SO_how 0 [.ref 0, .int a, .int b] μ (HK Φ fJ 2 9)) : Spec g i_L_how 0 [.ref 0, .int a, .int b, .ref 154] μ Φ := by
  refine spi o_L_how rfl (v_L_how_0 (H.mono fun q μ1 h5 h => ?_))
  match q, h with
  | .inl (some (.int r)), h => exact ⟨vp01, h⟩
  | .inr e, h =>
    by_cases z1 : e = 2
    · subst z1; exact h
    · by_cases z2 : e = 9
      · exact absurd (h5 e rfl) (by omega)
      · exact absurd h (HK_x z1 z2)
theorem L_chain {g : Gl} {Φ : Out → Mem → Prop} {μ : Mem} {a b c : Int32} (H : Spec g i_SO_chain 0 [.ref 0, .int a, .int b, .int c] μ (HK Φ fJ 2 9)) : Spec g i_L_chain 0 [.ref 0, .int a, .int b, .int c, .ref 154] μ Φ := by
  refine spi o_L_chain rfl (v_L_chain_0 (H.mono fun q μ1 h5 h => ?_))
  match q, h with
  | .inl (some (.int r)), h => exact ⟨vp01, h⟩
  | .inr e, h =>
    by_cases z1 : e = 2
    · subst z1; exact h
    · by_cases z2 : e = 9
      · exact absurd (h5 e rfl) (by omega)
      · exact absurd h (HK_x z1 z2)
theorem L_spot {g : Gl} {Φ : Out → Mem → Prop} {μ : Mem} {a b c d : Int32} (H : Spec g i_SO_spot 0 [.ref 0, .int a, .int b, .int c, .int d] μ (HK Φ fJ 2 0)) : Spec g i_L_spot 0 [.ref 0, .int a, .int b, .int c, .int d, .ref 154] μ Φ := by
  refine spi o_L_spot rfl (v_L_spot_0 (H.mono fun q μ1 h5 h => ?_))
  match q, h with
  | .inl (some (.int r)), h => exact ⟨vp01, h⟩
  | .inr e, h =>
    by_cases z1 : e = 2
    · subst z1; exact h
    · by_cases z2 : e = 0
      · subst z2; exact h
      · exact absurd h (HK_x z1 z2)
theorem L_speakers {g : Gl} {Φ : Out → Mem → Prop} {μ : Mem} {a : Int32} (H : Spec g i_SO_speakers 0 [.ref 0, .int a] μ (HK Φ fJ 2 9)) : Spec g i_L_speakers 0 [.ref 0, .int a, .ref 154] μ Φ := by
  refine spi o_L_speakers rfl (v_L_speakers_0 (H.mono fun q μ1 h5 h => ?_))
  match q, h with
  | .inl (some (.int r)), h => exact ⟨vp01, h⟩
  | .inr e, h =>
    by_cases z1 : e = 2
    · subst z1; exact h
    · by_cases z2 : e = 9
      · exact absurd (h5 e rfl) (by omega)
      · exact absurd h (HK_x z1 z2)
theorem L_between {g : Gl} {Φ : Out → Mem → Prop} {μ : Mem} {a b : Int32} (H : Spec g i_SO_between 0 [.ref 0, .int a, .int b] μ (HK Φ fJ 2 0)) : Spec g i_L_between 0 [.ref 0, .int a, .int b, .ref 154] μ Φ := by
  refine spi o_L_between rfl (v_L_between_0 (H.mono fun q μ1 h5 h => ?_))
  match q, h with
  | .inl (some (.int r)), h => exact ⟨vp01, h⟩
  | .inr e, h =>
    by_cases z1 : e = 2
    · subst z1; exact h
    · by_cases z2 : e = 0
      · subst z2; exact h
      · exact absurd h (HK_x z1 z2)
theorem L_echo {g : Gl} {Φ : Out → Mem → Prop} {μ : Mem} {a b c d : Int32} (H : Spec g i_SO_echo 0 [.ref 0, .int a, .int b, .int c, .int d] μ (HK Φ fJ 2 9)) : Spec g i_L_echo 0 [.ref 0, .int a, .int b, .int c, .int d, .ref 154] μ Φ := by
  refine spi o_L_echo rfl (v_L_echo_0 (H.mono fun q μ1 h5 h => ?_))
  match q, h with
  | .inl (some (.int r)), h => exact ⟨vp01, h⟩
  | .inr e, h =>
    by_cases z1 : e = 2
    · subst z1; exact h
    · by_cases z2 : e = 9
      · exact absurd (h5 e rfl) (by omega)
      · exact absurd h (HK_x z1 z2)
theorem L_learnt {g : Gl} {Φ : Out → Mem → Prop} {μ : Mem} {a b : Int32} (H : Spec g i_SO_learnt 0 [.ref 0, .int a, .int b] μ (HK Φ fJ 2 9)) : Spec g i_L_learnt 0 [.ref 0, .int a, .int b, .ref 154] μ Φ := by
  refine spi o_L_learnt rfl (v_L_learnt_0 (H.mono fun q μ1 h5 h => ?_))
  match q, h with
  | .inl (some (.int r)), h => exact ⟨vp01, h⟩
  | .inr e, h =>
    by_cases z1 : e = 2
    · subst z1; exact h
    · by_cases z2 : e = 9
      · exact absurd (h5 e rfl) (by omega)
      · exact absurd h (HK_x z1 z2)
theorem L_log {g : Gl} {Φ : Out → Mem → Prop} {μ : Mem} {a b : Int32} (H : Spec g i_SO_log 0 [.ref 0, .int a, .int b] μ (HK Φ fJ 3 9)) : Spec g i_L_log 0 [.ref 0, .int a, .int b, .ref 154] μ Φ := by
  refine spi o_L_log rfl (v_L_log_0 (H.mono fun q μ1 h5 h => ?_))
  match q, h with
  | .inl (some (.int r)), h => exact ⟨vp01, h⟩
  | .inr e, h =>
    by_cases z1 : e = 3
    · subst z1; exact h
    · by_cases z2 : e = 9
      · exact absurd (h5 e rfl) (by omega)
      · exact absurd h (HK_x z1 z2)
