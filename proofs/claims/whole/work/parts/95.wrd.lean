/-! words of the texts -/
set_option maxRecDepth 100000 in
set_option maxHeartbeats 4000000 in
theorem sl_1016 {g : Gl} {Φ : Out → Mem → Prop} {μ : Mem} (H : Φ (.inl (some (.int (nI 6)))) μ) : WW g i_Str_length 0 Φ 0 0 0 [(0, .ref 1016)] [] μ :=
  reg1_sound (cs := []) T_Str_length po_Str (rtM_ok H_Str_length) 12 (spi o_Str_coder rfl (v_Str_coder_0 ⟨fun h => absurd h (by decide), fun _ => ⟨rfl, oI H⟩⟩))
