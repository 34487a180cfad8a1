/-! words of the texts, by program (wip/whole/gen_wrd.py) -/
theorem szv_len {g : Gl} {a b : Int32} : Nat.ble (lg_sl [Value.int a, Value.int b, szv g]).length (miN i_Pre_checkIndex) = true := by
  unfold szv
  cases gZ g <;> rfl
theorem ckx {g : Gl} {Φ : Out → Mem → Prop} {μ : Mem} {a b : Int32} (h1 : ¬ a < 0) (h2 : a < b) (H : Φ (.inl none) μ) : Spec g i_Str_checkIndex 0 [.int a, .int b] μ Φ :=
  spi o_Str_checkIndex rfl (v_Str_checkIndex_0 (spi o_Pre_checkIndex szv_len (v_Pre_checkIndex_0 h1 h2 (oI H))))
def WOK (w : Nat) (bs : List Int32) : Prop := ∀ (g : Gl) (Φ : Out → Mem → Prop) (μ : Mem), (Φ (.inl (some (.int (nI bs.length)))) μ → Spec g i_Str_length 0 [.ref w] μ Φ) ∧ ∀ i, i < bs.length → Φ (.inl (some (.int (bs.getD i 0)))) μ → Spec g i_Str_charAt 0 [.ref w, .int (nI i)] μ Φ
set_option maxRecDepth 100000 in
set_option maxHeartbeats 4000000 in
theorem sl_1000 {g : Gl} {Φ : Out → Mem → Prop} {μ : Mem} (H : Φ (.inl (some (.int (nI 3)))) μ) : WW g i_Str_length 0 Φ 0 0 0 [(0, .ref 1000)] [] μ :=
  have H0 : Spec g i_Str_coder 0 [.ref 1000] μ (onI (fun r μ1 => Φ (.inl (some (.int ((nI 3) >>> (r &&& 31))))) μ1) (fun _ _ => False)) := spi o_Str_coder rfl (v_Str_coder_0 ⟨fun h => absurd h (by decide), fun _ => ⟨rfl, oI H⟩⟩)
  reg1_sound (cs := []) T_Str_length po_Str (rtM_ok H_Str_length) 12 H0
set_option maxRecDepth 100000 in
set_option maxHeartbeats 4000000 in
theorem sc_1000 {g : Gl} {Φ : Out → Mem → Prop} {μ : Mem} {a : Int32} (H : Spec g i_Str_checkIndex 0 [.int a, .int (nI 3)] μ (onV (fun μ1 => vp_in a 3 ∧ (narrow .char (.int (((sby 1000).getD (nx a) 0 &&& 255).toUInt32 % 65536).toInt32) = .int (((sby 1000).getD (nx a) 0 &&& 255).toUInt32 % 65536).toInt32 ∧ Φ (.inl (some (.int (((sby 1000).getD (nx a) 0 &&& 255).toUInt32 % 65536).toInt32))) μ1)) (fun e μ1 => rtM i_StrL_charAt Φ (.inr e) 0 0 μ1))) : WW g i_StrL_charAt 0 Φ 0 0 0 [(0, .ref 3000), (1, .int a)] [] μ :=
  reg1_sound (cs := []) T_StrL_charAt po_StrL (rtM_ok H_StrL_charAt) 14 H
set_option maxRecDepth 100000 in
set_option maxHeartbeats 4000000 in
theorem wk_1000 : WOK 1000 [102, 97, 114] := by
  intro g Φ μ
  refine ⟨fun H => spi o_Str_length rfl (sl_1000 H), fun i hi H => ?_⟩
  have hi : i < 3 := hi
  have hc : ∀ i, i < 3 → (((sby 1000).getD i 0 &&& 255).toUInt32 % 65536).toInt32 = ([102, 97, 114] : List Int32).getD i 0 ∧ narrow .char (.int (([102, 97, 114] : List Int32).getD i 0)) = .int (([102, 97, 114] : List Int32).getD i 0) := by decide +kernel
  obtain ⟨h1, h2⟩ := hc i hi
  refine spi o_Str_charAt rfl (v_Str_charAt_0 (w := 1000) (spi o_Str_isLatin1 rfl (v_Str_isLatin1_0 (w := 1000) ⟨fun h => absurd h (by decide), fun _ => ⟨fun h => absurd rfl h, fun _ => z11 (oI ⟨fun h => absurd h (by decide), fun _ => spi o_StrL_charAt rfl (sc_1000 (ckx (nI_pos (by omega)) (nI_lt hi (by omega)) (oV ⟨vp_in_nI hi (by decide), ?_⟩)))⟩)⟩⟩)))
  rw [nx_nI (by omega), h1]
  exact ⟨h2, oI ⟨h2, H⟩⟩
set_option maxRecDepth 100000 in
set_option maxHeartbeats 4000000 in
theorem sl_1001 {g : Gl} {Φ : Out → Mem → Prop} {μ : Mem} (H : Φ (.inl (some (.int (nI 4)))) μ) : WW g i_Str_length 0 Φ 0 0 0 [(0, .ref 1001)] [] μ :=
  have H0 : Spec g i_Str_coder 0 [.ref 1001] μ (onI (fun r μ1 => Φ (.inl (some (.int ((nI 4) >>> (r &&& 31))))) μ1) (fun _ _ => False)) := spi o_Str_coder rfl (v_Str_coder_0 ⟨fun h => absurd h (by decide), fun _ => ⟨rfl, oI H⟩⟩)
  reg1_sound (cs := []) T_Str_length po_Str (rtM_ok H_Str_length) 12 H0
set_option maxRecDepth 100000 in
set_option maxHeartbeats 4000000 in
theorem sc_1001 {g : Gl} {Φ : Out → Mem → Prop} {μ : Mem} {a : Int32} (H : Spec g i_Str_checkIndex 0 [.int a, .int (nI 4)] μ (onV (fun μ1 => vp_in a 4 ∧ (narrow .char (.int (((sby 1001).getD (nx a) 0 &&& 255).toUInt32 % 65536).toInt32) = .int (((sby 1001).getD (nx a) 0 &&& 255).toUInt32 % 65536).toInt32 ∧ Φ (.inl (some (.int (((sby 1001).getD (nx a) 0 &&& 255).toUInt32 % 65536).toInt32))) μ1)) (fun e μ1 => rtM i_StrL_charAt Φ (.inr e) 0 0 μ1))) : WW g i_StrL_charAt 0 Φ 0 0 0 [(0, .ref 3001), (1, .int a)] [] μ :=
  reg1_sound (cs := []) T_StrL_charAt po_StrL (rtM_ok H_StrL_charAt) 14 H
set_option maxRecDepth 100000 in
set_option maxHeartbeats 4000000 in
theorem wk_1001 : WOK 1001 [110, 101, 97, 114] := by
  intro g Φ μ
  refine ⟨fun H => spi o_Str_length rfl (sl_1001 H), fun i hi H => ?_⟩
  have hi : i < 4 := hi
  have hc : ∀ i, i < 4 → (((sby 1001).getD i 0 &&& 255).toUInt32 % 65536).toInt32 = ([110, 101, 97, 114] : List Int32).getD i 0 ∧ narrow .char (.int (([110, 101, 97, 114] : List Int32).getD i 0)) = .int (([110, 101, 97, 114] : List Int32).getD i 0) := by decide +kernel
  obtain ⟨h1, h2⟩ := hc i hi
  refine spi o_Str_charAt rfl (v_Str_charAt_0 (w := 1001) (spi o_Str_isLatin1 rfl (v_Str_isLatin1_0 (w := 1001) ⟨fun h => absurd h (by decide), fun _ => ⟨fun h => absurd rfl h, fun _ => z11 (oI ⟨fun h => absurd h (by decide), fun _ => spi o_StrL_charAt rfl (sc_1001 (ckx (nI_pos (by omega)) (nI_lt hi (by omega)) (oV ⟨vp_in_nI hi (by decide), ?_⟩)))⟩)⟩⟩)))
  rw [nx_nI (by omega), h1]
  exact ⟨h2, oI ⟨h2, H⟩⟩
set_option maxRecDepth 100000 in
set_option maxHeartbeats 4000000 in
theorem sl_1002 {g : Gl} {Φ : Out → Mem → Prop} {μ : Mem} (H : Φ (.inl (some (.int (nI 2)))) μ) : WW g i_Str_length 0 Φ 0 0 0 [(0, .ref 1002)] [] μ :=
  have H0 : Spec g i_Str_coder 0 [.ref 1002] μ (onI (fun r μ1 => Φ (.inl (some (.int ((nI 2) >>> (r &&& 31))))) μ1) (fun _ _ => False)) := spi o_Str_coder rfl (v_Str_coder_0 ⟨fun h => absurd h (by decide), fun _ => ⟨rfl, oI H⟩⟩)
  reg1_sound (cs := []) T_Str_length po_Str (rtM_ok H_Str_length) 12 H0
set_option maxRecDepth 100000 in
set_option maxHeartbeats 4000000 in
theorem sc_1002 {g : Gl} {Φ : Out → Mem → Prop} {μ : Mem} {a : Int32} (H : Spec g i_Str_checkIndex 0 [.int a, .int (nI 2)] μ (onV (fun μ1 => vp_in a 2 ∧ (narrow .char (.int (((sby 1002).getD (nx a) 0 &&& 255).toUInt32 % 65536).toInt32) = .int (((sby 1002).getD (nx a) 0 &&& 255).toUInt32 % 65536).toInt32 ∧ Φ (.inl (some (.int (((sby 1002).getD (nx a) 0 &&& 255).toUInt32 % 65536).toInt32))) μ1)) (fun e μ1 => rtM i_StrL_charAt Φ (.inr e) 0 0 μ1))) : WW g i_StrL_charAt 0 Φ 0 0 0 [(0, .ref 3002), (1, .int a)] [] μ :=
  reg1_sound (cs := []) T_StrL_charAt po_StrL (rtM_ok H_StrL_charAt) 14 H
set_option maxRecDepth 100000 in
set_option maxHeartbeats 4000000 in
theorem wk_1002 : WOK 1002 [97, 115] := by
  intro g Φ μ
  refine ⟨fun H => spi o_Str_length rfl (sl_1002 H), fun i hi H => ?_⟩
  have hi : i < 2 := hi
  have hc : ∀ i, i < 2 → (((sby 1002).getD i 0 &&& 255).toUInt32 % 65536).toInt32 = ([97, 115] : List Int32).getD i 0 ∧ narrow .char (.int (([97, 115] : List Int32).getD i 0)) = .int (([97, 115] : List Int32).getD i 0) := by decide +kernel
  obtain ⟨h1, h2⟩ := hc i hi
  refine spi o_Str_charAt rfl (v_Str_charAt_0 (w := 1002) (spi o_Str_isLatin1 rfl (v_Str_isLatin1_0 (w := 1002) ⟨fun h => absurd h (by decide), fun _ => ⟨fun h => absurd rfl h, fun _ => z11 (oI ⟨fun h => absurd h (by decide), fun _ => spi o_StrL_charAt rfl (sc_1002 (ckx (nI_pos (by omega)) (nI_lt hi (by omega)) (oV ⟨vp_in_nI hi (by decide), ?_⟩)))⟩)⟩⟩)))
  rw [nx_nI (by omega), h1]
  exact ⟨h2, oI ⟨h2, H⟩⟩
set_option maxRecDepth 100000 in
set_option maxHeartbeats 4000000 in
theorem sl_1003 {g : Gl} {Φ : Out → Mem → Prop} {μ : Mem} (H : Φ (.inl (some (.int (nI 2)))) μ) : WW g i_Str_length 0 Φ 0 0 0 [(0, .ref 1003)] [] μ :=
  have H0 : Spec g i_Str_coder 0 [.ref 1003] μ (onI (fun r μ1 => Φ (.inl (some (.int ((nI 2) >>> (r &&& 31))))) μ1) (fun _ _ => False)) := spi o_Str_coder rfl (v_Str_coder_0 ⟨fun h => absurd h (by decide), fun _ => ⟨rfl, oI H⟩⟩)
  reg1_sound (cs := []) T_Str_length po_Str (rtM_ok H_Str_length) 12 H0
set_option maxRecDepth 100000 in
set_option maxHeartbeats 4000000 in
theorem sc_1003 {g : Gl} {Φ : Out → Mem → Prop} {μ : Mem} {a : Int32} (H : Spec g i_Str_checkIndex 0 [.int a, .int (nI 2)] μ (onV (fun μ1 => vp_in a 2 ∧ (narrow .char (.int (((sby 1003).getD (nx a) 0 &&& 255).toUInt32 % 65536).toInt32) = .int (((sby 1003).getD (nx a) 0 &&& 255).toUInt32 % 65536).toInt32 ∧ Φ (.inl (some (.int (((sby 1003).getD (nx a) 0 &&& 255).toUInt32 % 65536).toInt32))) μ1)) (fun e μ1 => rtM i_StrL_charAt Φ (.inr e) 0 0 μ1))) : WW g i_StrL_charAt 0 Φ 0 0 0 [(0, .ref 3003), (1, .int a)] [] μ :=
  reg1_sound (cs := []) T_StrL_charAt po_StrL (rtM_ok H_StrL_charAt) 14 H
set_option maxRecDepth 100000 in
set_option maxHeartbeats 4000000 in
theorem wk_1003 : WOK 1003 [105, 102] := by
  intro g Φ μ
  refine ⟨fun H => spi o_Str_length rfl (sl_1003 H), fun i hi H => ?_⟩
  have hi : i < 2 := hi
  have hc : ∀ i, i < 2 → (((sby 1003).getD i 0 &&& 255).toUInt32 % 65536).toInt32 = ([105, 102] : List Int32).getD i 0 ∧ narrow .char (.int (([105, 102] : List Int32).getD i 0)) = .int (([105, 102] : List Int32).getD i 0) := by decide +kernel
  obtain ⟨h1, h2⟩ := hc i hi
  refine spi o_Str_charAt rfl (v_Str_charAt_0 (w := 1003) (spi o_Str_isLatin1 rfl (v_Str_isLatin1_0 (w := 1003) ⟨fun h => absurd h (by decide), fun _ => ⟨fun h => absurd rfl h, fun _ => z11 (oI ⟨fun h => absurd h (by decide), fun _ => spi o_StrL_charAt rfl (sc_1003 (ckx (nI_pos (by omega)) (nI_lt hi (by omega)) (oV ⟨vp_in_nI hi (by decide), ?_⟩)))⟩)⟩⟩)))
  rw [nx_nI (by omega), h1]
  exact ⟨h2, oI ⟨h2, H⟩⟩
set_option maxRecDepth 100000 in
set_option maxHeartbeats 4000000 in
theorem sl_1004 {g : Gl} {Φ : Out → Mem → Prop} {μ : Mem} (H : Φ (.inl (some (.int (nI 3)))) μ) : WW g i_Str_length 0 Φ 0 0 0 [(0, .ref 1004)] [] μ :=
  have H0 : Spec g i_Str_coder 0 [.ref 1004] μ (onI (fun r μ1 => Φ (.inl (some (.int ((nI 3) >>> (r &&& 31))))) μ1) (fun _ _ => False)) := spi o_Str_coder rfl (v_Str_coder_0 ⟨fun h => absurd h (by decide), fun _ => ⟨rfl, oI H⟩⟩)
  reg1_sound (cs := []) T_Str_length po_Str (rtM_ok H_Str_length) 12 H0
set_option maxRecDepth 100000 in
set_option maxHeartbeats 4000000 in
theorem sc_1004 {g : Gl} {Φ : Out → Mem → Prop} {μ : Mem} {a : Int32} (H : Spec g i_Str_checkIndex 0 [.int a, .int (nI 3)] μ (onV (fun μ1 => vp_in a 3 ∧ (narrow .char (.int (((sby 1004).getD (nx a) 0 &&& 255).toUInt32 % 65536).toInt32) = .int (((sby 1004).getD (nx a) 0 &&& 255).toUInt32 % 65536).toInt32 ∧ Φ (.inl (some (.int (((sby 1004).getD (nx a) 0 &&& 255).toUInt32 % 65536).toInt32))) μ1)) (fun e μ1 => rtM i_StrL_charAt Φ (.inr e) 0 0 μ1))) : WW g i_StrL_charAt 0 Φ 0 0 0 [(0, .ref 3004), (1, .int a)] [] μ :=
  reg1_sound (cs := []) T_StrL_charAt po_StrL (rtM_ok H_StrL_charAt) 14 H
set_option maxRecDepth 100000 in
set_option maxHeartbeats 4000000 in
theorem wk_1004 : WOK 1004 [110, 111, 116] := by
  intro g Φ μ
  refine ⟨fun H => spi o_Str_length rfl (sl_1004 H), fun i hi H => ?_⟩
  have hi : i < 3 := hi
  have hc : ∀ i, i < 3 → (((sby 1004).getD i 0 &&& 255).toUInt32 % 65536).toInt32 = ([110, 111, 116] : List Int32).getD i 0 ∧ narrow .char (.int (([110, 111, 116] : List Int32).getD i 0)) = .int (([110, 111, 116] : List Int32).getD i 0) := by decide +kernel
  obtain ⟨h1, h2⟩ := hc i hi
  refine spi o_Str_charAt rfl (v_Str_charAt_0 (w := 1004) (spi o_Str_isLatin1 rfl (v_Str_isLatin1_0 (w := 1004) ⟨fun h => absurd h (by decide), fun _ => ⟨fun h => absurd rfl h, fun _ => z11 (oI ⟨fun h => absurd h (by decide), fun _ => spi o_StrL_charAt rfl (sc_1004 (ckx (nI_pos (by omega)) (nI_lt hi (by omega)) (oV ⟨vp_in_nI hi (by decide), ?_⟩)))⟩)⟩⟩)))
  rw [nx_nI (by omega), h1]
  exact ⟨h2, oI ⟨h2, H⟩⟩
set_option maxRecDepth 100000 in
set_option maxHeartbeats 4000000 in
theorem sl_1005 {g : Gl} {Φ : Out → Mem → Prop} {μ : Mem} (H : Φ (.inl (some (.int (nI 5)))) μ) : WW g i_Str_length 0 Φ 0 0 0 [(0, .ref 1005)] [] μ :=
  have H0 : Spec g i_Str_coder 0 [.ref 1005] μ (onI (fun r μ1 => Φ (.inl (some (.int ((nI 5) >>> (r &&& 31))))) μ1) (fun _ _ => False)) := spi o_Str_coder rfl (v_Str_coder_0 ⟨fun h => absurd h (by decide), fun _ => ⟨rfl, oI H⟩⟩)
  reg1_sound (cs := []) T_Str_length po_Str (rtM_ok H_Str_length) 12 H0
set_option maxRecDepth 100000 in
set_option maxHeartbeats 4000000 in
theorem sc_1005 {g : Gl} {Φ : Out → Mem → Prop} {μ : Mem} {a : Int32} (H : Spec g i_Str_checkIndex 0 [.int a, .int (nI 5)] μ (onV (fun μ1 => vp_in a 5 ∧ (narrow .char (.int (((sby 1005).getD (nx a) 0 &&& 255).toUInt32 % 65536).toInt32) = .int (((sby 1005).getD (nx a) 0 &&& 255).toUInt32 % 65536).toInt32 ∧ Φ (.inl (some (.int (((sby 1005).getD (nx a) 0 &&& 255).toUInt32 % 65536).toInt32))) μ1)) (fun e μ1 => rtM i_StrL_charAt Φ (.inr e) 0 0 μ1))) : WW g i_StrL_charAt 0 Φ 0 0 0 [(0, .ref 3005), (1, .int a)] [] μ :=
  reg1_sound (cs := []) T_StrL_charAt po_StrL (rtM_ok H_StrL_charAt) 14 H
set_option maxRecDepth 100000 in
set_option maxHeartbeats 4000000 in
theorem wk_1005 : WOK 1005 [107, 110, 111, 119, 110] := by
  intro g Φ μ
  refine ⟨fun H => spi o_Str_length rfl (sl_1005 H), fun i hi H => ?_⟩
  have hi : i < 5 := hi
  have hc : ∀ i, i < 5 → (((sby 1005).getD i 0 &&& 255).toUInt32 % 65536).toInt32 = ([107, 110, 111, 119, 110] : List Int32).getD i 0 ∧ narrow .char (.int (([107, 110, 111, 119, 110] : List Int32).getD i 0)) = .int (([107, 110, 111, 119, 110] : List Int32).getD i 0) := by decide +kernel
  obtain ⟨h1, h2⟩ := hc i hi
  refine spi o_Str_charAt rfl (v_Str_charAt_0 (w := 1005) (spi o_Str_isLatin1 rfl (v_Str_isLatin1_0 (w := 1005) ⟨fun h => absurd h (by decide), fun _ => ⟨fun h => absurd rfl h, fun _ => z11 (oI ⟨fun h => absurd h (by decide), fun _ => spi o_StrL_charAt rfl (sc_1005 (ckx (nI_pos (by omega)) (nI_lt hi (by omega)) (oV ⟨vp_in_nI hi (by decide), ?_⟩)))⟩)⟩⟩)))
  rw [nx_nI (by omega), h1]
  exact ⟨h2, oI ⟨h2, H⟩⟩
set_option maxRecDepth 100000 in
set_option maxHeartbeats 4000000 in
theorem sl_1006 {g : Gl} {Φ : Out → Mem → Prop} {μ : Mem} (H : Φ (.inl (some (.int (nI 5)))) μ) : WW g i_Str_length 0 Φ 0 0 0 [(0, .ref 1006)] [] μ :=
  have H0 : Spec g i_Str_coder 0 [.ref 1006] μ (onI (fun r μ1 => Φ (.inl (some (.int ((nI 5) >>> (r &&& 31))))) μ1) (fun _ _ => False)) := spi o_Str_coder rfl (v_Str_coder_0 ⟨fun h => absurd h (by decide), fun _ => ⟨rfl, oI H⟩⟩)
  reg1_sound (cs := []) T_Str_length po_Str (rtM_ok H_Str_length) 12 H0
set_option maxRecDepth 100000 in
set_option maxHeartbeats 4000000 in
theorem sc_1006 {g : Gl} {Φ : Out → Mem → Prop} {μ : Mem} {a : Int32} (H : Spec g i_Str_checkIndex 0 [.int a, .int (nI 5)] μ (onV (fun μ1 => vp_in a 5 ∧ (narrow .char (.int (((sby 1006).getD (nx a) 0 &&& 255).toUInt32 % 65536).toInt32) = .int (((sby 1006).getD (nx a) 0 &&& 255).toUInt32 % 65536).toInt32 ∧ Φ (.inl (some (.int (((sby 1006).getD (nx a) 0 &&& 255).toUInt32 % 65536).toInt32))) μ1)) (fun e μ1 => rtM i_StrL_charAt Φ (.inr e) 0 0 μ1))) : WW g i_StrL_charAt 0 Φ 0 0 0 [(0, .ref 3006), (1, .int a)] [] μ :=
  reg1_sound (cs := []) T_StrL_charAt po_StrL (rtM_ok H_StrL_charAt) 14 H
set_option maxRecDepth 100000 in
set_option maxHeartbeats 4000000 in
theorem wk_1006 : WOK 1006 [116, 104, 105, 110, 103] := by
  intro g Φ μ
  refine ⟨fun H => spi o_Str_length rfl (sl_1006 H), fun i hi H => ?_⟩
  have hi : i < 5 := hi
  have hc : ∀ i, i < 5 → (((sby 1006).getD i 0 &&& 255).toUInt32 % 65536).toInt32 = ([116, 104, 105, 110, 103] : List Int32).getD i 0 ∧ narrow .char (.int (([116, 104, 105, 110, 103] : List Int32).getD i 0)) = .int (([116, 104, 105, 110, 103] : List Int32).getD i 0) := by decide +kernel
  obtain ⟨h1, h2⟩ := hc i hi
  refine spi o_Str_charAt rfl (v_Str_charAt_0 (w := 1006) (spi o_Str_isLatin1 rfl (v_Str_isLatin1_0 (w := 1006) ⟨fun h => absurd h (by decide), fun _ => ⟨fun h => absurd rfl h, fun _ => z11 (oI ⟨fun h => absurd h (by decide), fun _ => spi o_StrL_charAt rfl (sc_1006 (ckx (nI_pos (by omega)) (nI_lt hi (by omega)) (oV ⟨vp_in_nI hi (by decide), ?_⟩)))⟩)⟩⟩)))
  rw [nx_nI (by omega), h1]
  exact ⟨h2, oI ⟨h2, H⟩⟩
set_option maxRecDepth 100000 in
set_option maxHeartbeats 4000000 in
theorem sl_1007 {g : Gl} {Φ : Out → Mem → Prop} {μ : Mem} (H : Φ (.inl (some (.int (nI 7)))) μ) : WW g i_Str_length 0 Φ 0 0 0 [(0, .ref 1007)] [] μ :=
  have H0 : Spec g i_Str_coder 0 [.ref 1007] μ (onI (fun r μ1 => Φ (.inl (some (.int ((nI 7) >>> (r &&& 31))))) μ1) (fun _ _ => False)) := spi o_Str_coder rfl (v_Str_coder_0 ⟨fun h => absurd h (by decide), fun _ => ⟨rfl, oI H⟩⟩)
  reg1_sound (cs := []) T_Str_length po_Str (rtM_ok H_Str_length) 12 H0
set_option maxRecDepth 100000 in
set_option maxHeartbeats 4000000 in
theorem sc_1007 {g : Gl} {Φ : Out → Mem → Prop} {μ : Mem} {a : Int32} (H : Spec g i_Str_checkIndex 0 [.int a, .int (nI 7)] μ (onV (fun μ1 => vp_in a 7 ∧ (narrow .char (.int (((sby 1007).getD (nx a) 0 &&& 255).toUInt32 % 65536).toInt32) = .int (((sby 1007).getD (nx a) 0 &&& 255).toUInt32 % 65536).toInt32 ∧ Φ (.inl (some (.int (((sby 1007).getD (nx a) 0 &&& 255).toUInt32 % 65536).toInt32))) μ1)) (fun e μ1 => rtM i_StrL_charAt Φ (.inr e) 0 0 μ1))) : WW g i_StrL_charAt 0 Φ 0 0 0 [(0, .ref 3007), (1, .int a)] [] μ :=
  reg1_sound (cs := []) T_StrL_charAt po_StrL (rtM_ok H_StrL_charAt) 14 H
set_option maxRecDepth 100000 in
set_option maxHeartbeats 4000000 in
theorem wk_1007 : WOK 1007 [119, 111, 114, 100, 105, 110, 103] := by
  intro g Φ μ
  refine ⟨fun H => spi o_Str_length rfl (sl_1007 H), fun i hi H => ?_⟩
  have hi : i < 7 := hi
  have hc : ∀ i, i < 7 → (((sby 1007).getD i 0 &&& 255).toUInt32 % 65536).toInt32 = ([119, 111, 114, 100, 105, 110, 103] : List Int32).getD i 0 ∧ narrow .char (.int (([119, 111, 114, 100, 105, 110, 103] : List Int32).getD i 0)) = .int (([119, 111, 114, 100, 105, 110, 103] : List Int32).getD i 0) := by decide +kernel
  obtain ⟨h1, h2⟩ := hc i hi
  refine spi o_Str_charAt rfl (v_Str_charAt_0 (w := 1007) (spi o_Str_isLatin1 rfl (v_Str_isLatin1_0 (w := 1007) ⟨fun h => absurd h (by decide), fun _ => ⟨fun h => absurd rfl h, fun _ => z11 (oI ⟨fun h => absurd h (by decide), fun _ => spi o_StrL_charAt rfl (sc_1007 (ckx (nI_pos (by omega)) (nI_lt hi (by omega)) (oV ⟨vp_in_nI hi (by decide), ?_⟩)))⟩)⟩⟩)))
  rw [nx_nI (by omega), h1]
  exact ⟨h2, oI ⟨h2, H⟩⟩
set_option maxRecDepth 100000 in
set_option maxHeartbeats 4000000 in
theorem sl_1008 {g : Gl} {Φ : Out → Mem → Prop} {μ : Mem} (H : Φ (.inl (some (.int (nI 3)))) μ) : WW g i_Str_length 0 Φ 0 0 0 [(0, .ref 1008)] [] μ :=
  have H0 : Spec g i_Str_coder 0 [.ref 1008] μ (onI (fun r μ1 => Φ (.inl (some (.int ((nI 3) >>> (r &&& 31))))) μ1) (fun _ _ => False)) := spi o_Str_coder rfl (v_Str_coder_0 ⟨fun h => absurd h (by decide), fun _ => ⟨rfl, oI H⟩⟩)
  reg1_sound (cs := []) T_Str_length po_Str (rtM_ok H_Str_length) 12 H0
set_option maxRecDepth 100000 in
set_option maxHeartbeats 4000000 in
theorem sc_1008 {g : Gl} {Φ : Out → Mem → Prop} {μ : Mem} {a : Int32} (H : Spec g i_Str_checkIndex 0 [.int a, .int (nI 3)] μ (onV (fun μ1 => vp_in a 3 ∧ (narrow .char (.int (((sby 1008).getD (nx a) 0 &&& 255).toUInt32 % 65536).toInt32) = .int (((sby 1008).getD (nx a) 0 &&& 255).toUInt32 % 65536).toInt32 ∧ Φ (.inl (some (.int (((sby 1008).getD (nx a) 0 &&& 255).toUInt32 % 65536).toInt32))) μ1)) (fun e μ1 => rtM i_StrL_charAt Φ (.inr e) 0 0 μ1))) : WW g i_StrL_charAt 0 Φ 0 0 0 [(0, .ref 3008), (1, .int a)] [] μ :=
  reg1_sound (cs := []) T_StrL_charAt po_StrL (rtM_ok H_StrL_charAt) 14 H
set_option maxRecDepth 100000 in
set_option maxHeartbeats 4000000 in
theorem wk_1008 : WOK 1008 [119, 104, 111] := by
  intro g Φ μ
  refine ⟨fun H => spi o_Str_length rfl (sl_1008 H), fun i hi H => ?_⟩
  have hi : i < 3 := hi
  have hc : ∀ i, i < 3 → (((sby 1008).getD i 0 &&& 255).toUInt32 % 65536).toInt32 = ([119, 104, 111] : List Int32).getD i 0 ∧ narrow .char (.int (([119, 104, 111] : List Int32).getD i 0)) = .int (([119, 104, 111] : List Int32).getD i 0) := by decide +kernel
  obtain ⟨h1, h2⟩ := hc i hi
  refine spi o_Str_charAt rfl (v_Str_charAt_0 (w := 1008) (spi o_Str_isLatin1 rfl (v_Str_isLatin1_0 (w := 1008) ⟨fun h => absurd h (by decide), fun _ => ⟨fun h => absurd rfl h, fun _ => z11 (oI ⟨fun h => absurd h (by decide), fun _ => spi o_StrL_charAt rfl (sc_1008 (ckx (nI_pos (by omega)) (nI_lt hi (by omega)) (oV ⟨vp_in_nI hi (by decide), ?_⟩)))⟩)⟩⟩)))
  rw [nx_nI (by omega), h1]
  exact ⟨h2, oI ⟨h2, H⟩⟩
set_option maxRecDepth 100000 in
set_option maxHeartbeats 4000000 in
theorem sl_1009 {g : Gl} {Φ : Out → Mem → Prop} {μ : Mem} (H : Φ (.inl (some (.int (nI 4)))) μ) : WW g i_Str_length 0 Φ 0 0 0 [(0, .ref 1009)] [] μ :=
  have H0 : Spec g i_Str_coder 0 [.ref 1009] μ (onI (fun r μ1 => Φ (.inl (some (.int ((nI 4) >>> (r &&& 31))))) μ1) (fun _ _ => False)) := spi o_Str_coder rfl (v_Str_coder_0 ⟨fun h => absurd h (by decide), fun _ => ⟨rfl, oI H⟩⟩)
  reg1_sound (cs := []) T_Str_length po_Str (rtM_ok H_Str_length) 12 H0
set_option maxRecDepth 100000 in
set_option maxHeartbeats 4000000 in
theorem sc_1009 {g : Gl} {Φ : Out → Mem → Prop} {μ : Mem} {a : Int32} (H : Spec g i_Str_checkIndex 0 [.int a, .int (nI 4)] μ (onV (fun μ1 => vp_in a 4 ∧ (narrow .char (.int (((sby 1009).getD (nx a) 0 &&& 255).toUInt32 % 65536).toInt32) = .int (((sby 1009).getD (nx a) 0 &&& 255).toUInt32 % 65536).toInt32 ∧ Φ (.inl (some (.int (((sby 1009).getD (nx a) 0 &&& 255).toUInt32 % 65536).toInt32))) μ1)) (fun e μ1 => rtM i_StrL_charAt Φ (.inr e) 0 0 μ1))) : WW g i_StrL_charAt 0 Φ 0 0 0 [(0, .ref 3009), (1, .int a)] [] μ :=
  reg1_sound (cs := []) T_StrL_charAt po_StrL (rtM_ok H_StrL_charAt) 14 H
set_option maxRecDepth 100000 in
set_option maxHeartbeats 4000000 in
theorem wk_1009 : WOK 1009 [119, 104, 111, 109] := by
  intro g Φ μ
  refine ⟨fun H => spi o_Str_length rfl (sl_1009 H), fun i hi H => ?_⟩
  have hi : i < 4 := hi
  have hc : ∀ i, i < 4 → (((sby 1009).getD i 0 &&& 255).toUInt32 % 65536).toInt32 = ([119, 104, 111, 109] : List Int32).getD i 0 ∧ narrow .char (.int (([119, 104, 111, 109] : List Int32).getD i 0)) = .int (([119, 104, 111, 109] : List Int32).getD i 0) := by decide +kernel
  obtain ⟨h1, h2⟩ := hc i hi
  refine spi o_Str_charAt rfl (v_Str_charAt_0 (w := 1009) (spi o_Str_isLatin1 rfl (v_Str_isLatin1_0 (w := 1009) ⟨fun h => absurd h (by decide), fun _ => ⟨fun h => absurd rfl h, fun _ => z11 (oI ⟨fun h => absurd h (by decide), fun _ => spi o_StrL_charAt rfl (sc_1009 (ckx (nI_pos (by omega)) (nI_lt hi (by omega)) (oV ⟨vp_in_nI hi (by decide), ?_⟩)))⟩)⟩⟩)))
  rw [nx_nI (by omega), h1]
  exact ⟨h2, oI ⟨h2, H⟩⟩
set_option maxRecDepth 100000 in
set_option maxHeartbeats 4000000 in
theorem sl_1010 {g : Gl} {Φ : Out → Mem → Prop} {μ : Mem} (H : Φ (.inl (some (.int (nI 5)))) μ) : WW g i_Str_length 0 Φ 0 0 0 [(0, .ref 1010)] [] μ :=
  have H0 : Spec g i_Str_coder 0 [.ref 1010] μ (onI (fun r μ1 => Φ (.inl (some (.int ((nI 5) >>> (r &&& 31))))) μ1) (fun _ _ => False)) := spi o_Str_coder rfl (v_Str_coder_0 ⟨fun h => absurd h (by decide), fun _ => ⟨rfl, oI H⟩⟩)
  reg1_sound (cs := []) T_Str_length po_Str (rtM_ok H_Str_length) 12 H0
set_option maxRecDepth 100000 in
set_option maxHeartbeats 4000000 in
theorem sc_1010 {g : Gl} {Φ : Out → Mem → Prop} {μ : Mem} {a : Int32} (H : Spec g i_Str_checkIndex 0 [.int a, .int (nI 5)] μ (onV (fun μ1 => vp_in a 5 ∧ (narrow .char (.int (((sby 1010).getD (nx a) 0 &&& 255).toUInt32 % 65536).toInt32) = .int (((sby 1010).getD (nx a) 0 &&& 255).toUInt32 % 65536).toInt32 ∧ Φ (.inl (some (.int (((sby 1010).getD (nx a) 0 &&& 255).toUInt32 % 65536).toInt32))) μ1)) (fun e μ1 => rtM i_StrL_charAt Φ (.inr e) 0 0 μ1))) : WW g i_StrL_charAt 0 Φ 0 0 0 [(0, .ref 3010), (1, .int a)] [] μ :=
  reg1_sound (cs := []) T_StrL_charAt po_StrL (rtM_ok H_StrL_charAt) 14 H
set_option maxRecDepth 100000 in
set_option maxHeartbeats 4000000 in
theorem wk_1010 : WOK 1010 [97, 112, 97, 114, 116] := by
  intro g Φ μ
  refine ⟨fun H => spi o_Str_length rfl (sl_1010 H), fun i hi H => ?_⟩
  have hi : i < 5 := hi
  have hc : ∀ i, i < 5 → (((sby 1010).getD i 0 &&& 255).toUInt32 % 65536).toInt32 = ([97, 112, 97, 114, 116] : List Int32).getD i 0 ∧ narrow .char (.int (([97, 112, 97, 114, 116] : List Int32).getD i 0)) = .int (([97, 112, 97, 114, 116] : List Int32).getD i 0) := by decide +kernel
  obtain ⟨h1, h2⟩ := hc i hi
  refine spi o_Str_charAt rfl (v_Str_charAt_0 (w := 1010) (spi o_Str_isLatin1 rfl (v_Str_isLatin1_0 (w := 1010) ⟨fun h => absurd h (by decide), fun _ => ⟨fun h => absurd rfl h, fun _ => z11 (oI ⟨fun h => absurd h (by decide), fun _ => spi o_StrL_charAt rfl (sc_1010 (ckx (nI_pos (by omega)) (nI_lt hi (by omega)) (oV ⟨vp_in_nI hi (by decide), ?_⟩)))⟩)⟩⟩)))
  rw [nx_nI (by omega), h1]
  exact ⟨h2, oI ⟨h2, H⟩⟩
set_option maxRecDepth 100000 in
set_option maxHeartbeats 4000000 in
theorem sl_1011 {g : Gl} {Φ : Out → Mem → Prop} {μ : Mem} (H : Φ (.inl (some (.int (nI 3)))) μ) : WW g i_Str_length 0 Φ 0 0 0 [(0, .ref 1011)] [] μ :=
  have H0 : Spec g i_Str_coder 0 [.ref 1011] μ (onI (fun r μ1 => Φ (.inl (some (.int ((nI 3) >>> (r &&& 31))))) μ1) (fun _ _ => False)) := spi o_Str_coder rfl (v_Str_coder_0 ⟨fun h => absurd h (by decide), fun _ => ⟨rfl, oI H⟩⟩)
  reg1_sound (cs := []) T_Str_length po_Str (rtM_ok H_Str_length) 12 H0
set_option maxRecDepth 100000 in
set_option maxHeartbeats 4000000 in
theorem sc_1011 {g : Gl} {Φ : Out → Mem → Prop} {μ : Mem} {a : Int32} (H : Spec g i_Str_checkIndex 0 [.int a, .int (nI 3)] μ (onV (fun μ1 => vp_in a 3 ∧ (narrow .char (.int (((sby 1011).getD (nx a) 0 &&& 255).toUInt32 % 65536).toInt32) = .int (((sby 1011).getD (nx a) 0 &&& 255).toUInt32 % 65536).toInt32 ∧ Φ (.inl (some (.int (((sby 1011).getD (nx a) 0 &&& 255).toUInt32 % 65536).toInt32))) μ1)) (fun e μ1 => rtM i_StrL_charAt Φ (.inr e) 0 0 μ1))) : WW g i_StrL_charAt 0 Φ 0 0 0 [(0, .ref 3011), (1, .int a)] [] μ :=
  reg1_sound (cs := []) T_StrL_charAt po_StrL (rtM_ok H_StrL_charAt) 14 H
set_option maxRecDepth 100000 in
set_option maxHeartbeats 4000000 in
theorem wk_1011 : WOK 1011 [101, 97, 114] := by
  intro g Φ μ
  refine ⟨fun H => spi o_Str_length rfl (sl_1011 H), fun i hi H => ?_⟩
  have hi : i < 3 := hi
  have hc : ∀ i, i < 3 → (((sby 1011).getD i 0 &&& 255).toUInt32 % 65536).toInt32 = ([101, 97, 114] : List Int32).getD i 0 ∧ narrow .char (.int (([101, 97, 114] : List Int32).getD i 0)) = .int (([101, 97, 114] : List Int32).getD i 0) := by decide +kernel
  obtain ⟨h1, h2⟩ := hc i hi
  refine spi o_Str_charAt rfl (v_Str_charAt_0 (w := 1011) (spi o_Str_isLatin1 rfl (v_Str_isLatin1_0 (w := 1011) ⟨fun h => absurd h (by decide), fun _ => ⟨fun h => absurd rfl h, fun _ => z11 (oI ⟨fun h => absurd h (by decide), fun _ => spi o_StrL_charAt rfl (sc_1011 (ckx (nI_pos (by omega)) (nI_lt hi (by omega)) (oV ⟨vp_in_nI hi (by decide), ?_⟩)))⟩)⟩⟩)))
  rw [nx_nI (by omega), h1]
  exact ⟨h2, oI ⟨h2, H⟩⟩
set_option maxRecDepth 100000 in
set_option maxHeartbeats 4000000 in
theorem sl_1012 {g : Gl} {Φ : Out → Mem → Prop} {μ : Mem} (H : Φ (.inl (some (.int (nI 3)))) μ) : WW g i_Str_length 0 Φ 0 0 0 [(0, .ref 1012)] [] μ :=
  have H0 : Spec g i_Str_coder 0 [.ref 1012] μ (onI (fun r μ1 => Φ (.inl (some (.int ((nI 3) >>> (r &&& 31))))) μ1) (fun _ _ => False)) := spi o_Str_coder rfl (v_Str_coder_0 ⟨fun h => absurd h (by decide), fun _ => ⟨rfl, oI H⟩⟩)
  reg1_sound (cs := []) T_Str_length po_Str (rtM_ok H_Str_length) 12 H0
set_option maxRecDepth 100000 in
set_option maxHeartbeats 4000000 in
theorem sc_1012 {g : Gl} {Φ : Out → Mem → Prop} {μ : Mem} {a : Int32} (H : Spec g i_Str_checkIndex 0 [.int a, .int (nI 3)] μ (onV (fun μ1 => vp_in a 3 ∧ (narrow .char (.int (((sby 1012).getD (nx a) 0 &&& 255).toUInt32 % 65536).toInt32) = .int (((sby 1012).getD (nx a) 0 &&& 255).toUInt32 % 65536).toInt32 ∧ Φ (.inl (some (.int (((sby 1012).getD (nx a) 0 &&& 255).toUInt32 % 65536).toInt32))) μ1)) (fun e μ1 => rtM i_StrL_charAt Φ (.inr e) 0 0 μ1))) : WW g i_StrL_charAt 0 Φ 0 0 0 [(0, .ref 3012), (1, .int a)] [] μ :=
  reg1_sound (cs := []) T_StrL_charAt po_StrL (rtM_ok H_StrL_charAt) 14 H
set_option maxRecDepth 100000 in
set_option maxHeartbeats 4000000 in
theorem wk_1012 : WOK 1012 [100, 97, 121] := by
  intro g Φ μ
  refine ⟨fun H => spi o_Str_length rfl (sl_1012 H), fun i hi H => ?_⟩
  have hi : i < 3 := hi
  have hc : ∀ i, i < 3 → (((sby 1012).getD i 0 &&& 255).toUInt32 % 65536).toInt32 = ([100, 97, 121] : List Int32).getD i 0 ∧ narrow .char (.int (([100, 97, 121] : List Int32).getD i 0)) = .int (([100, 97, 121] : List Int32).getD i 0) := by decide +kernel
  obtain ⟨h1, h2⟩ := hc i hi
  refine spi o_Str_charAt rfl (v_Str_charAt_0 (w := 1012) (spi o_Str_isLatin1 rfl (v_Str_isLatin1_0 (w := 1012) ⟨fun h => absurd h (by decide), fun _ => ⟨fun h => absurd rfl h, fun _ => z11 (oI ⟨fun h => absurd h (by decide), fun _ => spi o_StrL_charAt rfl (sc_1012 (ckx (nI_pos (by omega)) (nI_lt hi (by omega)) (oV ⟨vp_in_nI hi (by decide), ?_⟩)))⟩)⟩⟩)))
  rw [nx_nI (by omega), h1]
  exact ⟨h2, oI ⟨h2, H⟩⟩
set_option maxRecDepth 100000 in
set_option maxHeartbeats 4000000 in
theorem sl_1013 {g : Gl} {Φ : Out → Mem → Prop} {μ : Mem} (H : Φ (.inl (some (.int (nI 3)))) μ) : WW g i_Str_length 0 Φ 0 0 0 [(0, .ref 1013)] [] μ :=
  have H0 : Spec g i_Str_coder 0 [.ref 1013] μ (onI (fun r μ1 => Φ (.inl (some (.int ((nI 3) >>> (r &&& 31))))) μ1) (fun _ _ => False)) := spi o_Str_coder rfl (v_Str_coder_0 ⟨fun h => absurd h (by decide), fun _ => ⟨rfl, oI H⟩⟩)
  reg1_sound (cs := []) T_Str_length po_Str (rtM_ok H_Str_length) 12 H0
set_option maxRecDepth 100000 in
set_option maxHeartbeats 4000000 in
theorem sc_1013 {g : Gl} {Φ : Out → Mem → Prop} {μ : Mem} {a : Int32} (H : Spec g i_Str_checkIndex 0 [.int a, .int (nI 3)] μ (onV (fun μ1 => vp_in a 3 ∧ (narrow .char (.int (((sby 1013).getD (nx a) 0 &&& 255).toUInt32 % 65536).toInt32) = .int (((sby 1013).getD (nx a) 0 &&& 255).toUInt32 % 65536).toInt32 ∧ Φ (.inl (some (.int (((sby 1013).getD (nx a) 0 &&& 255).toUInt32 % 65536).toInt32))) μ1)) (fun e μ1 => rtM i_StrL_charAt Φ (.inr e) 0 0 μ1))) : WW g i_StrL_charAt 0 Φ 0 0 0 [(0, .ref 3013), (1, .int a)] [] μ :=
  reg1_sound (cs := []) T_StrL_charAt po_StrL (rtM_ok H_StrL_charAt) 14 H
set_option maxRecDepth 100000 in
set_option maxHeartbeats 4000000 in
theorem wk_1013 : WOK 1013 [97, 110, 100] := by
  intro g Φ μ
  refine ⟨fun H => spi o_Str_length rfl (sl_1013 H), fun i hi H => ?_⟩
  have hi : i < 3 := hi
  have hc : ∀ i, i < 3 → (((sby 1013).getD i 0 &&& 255).toUInt32 % 65536).toInt32 = ([97, 110, 100] : List Int32).getD i 0 ∧ narrow .char (.int (([97, 110, 100] : List Int32).getD i 0)) = .int (([97, 110, 100] : List Int32).getD i 0) := by decide +kernel
  obtain ⟨h1, h2⟩ := hc i hi
  refine spi o_Str_charAt rfl (v_Str_charAt_0 (w := 1013) (spi o_Str_isLatin1 rfl (v_Str_isLatin1_0 (w := 1013) ⟨fun h => absurd h (by decide), fun _ => ⟨fun h => absurd rfl h, fun _ => z11 (oI ⟨fun h => absurd h (by decide), fun _ => spi o_StrL_charAt rfl (sc_1013 (ckx (nI_pos (by omega)) (nI_lt hi (by omega)) (oV ⟨vp_in_nI hi (by decide), ?_⟩)))⟩)⟩⟩)))
  rw [nx_nI (by omega), h1]
  exact ⟨h2, oI ⟨h2, H⟩⟩
set_option maxRecDepth 100000 in
set_option maxHeartbeats 4000000 in
theorem sl_1014 {g : Gl} {Φ : Out → Mem → Prop} {μ : Mem} (H : Φ (.inl (some (.int (nI 2)))) μ) : WW g i_Str_length 0 Φ 0 0 0 [(0, .ref 1014)] [] μ :=
  have H0 : Spec g i_Str_coder 0 [.ref 1014] μ (onI (fun r μ1 => Φ (.inl (some (.int ((nI 2) >>> (r &&& 31))))) μ1) (fun _ _ => False)) := spi o_Str_coder rfl (v_Str_coder_0 ⟨fun h => absurd h (by decide), fun _ => ⟨rfl, oI H⟩⟩)
  reg1_sound (cs := []) T_Str_length po_Str (rtM_ok H_Str_length) 12 H0
set_option maxRecDepth 100000 in
set_option maxHeartbeats 4000000 in
theorem sc_1014 {g : Gl} {Φ : Out → Mem → Prop} {μ : Mem} {a : Int32} (H : Spec g i_Str_checkIndex 0 [.int a, .int (nI 2)] μ (onV (fun μ1 => vp_in a 2 ∧ (narrow .char (.int (((sby 1014).getD (nx a) 0 &&& 255).toUInt32 % 65536).toInt32) = .int (((sby 1014).getD (nx a) 0 &&& 255).toUInt32 % 65536).toInt32 ∧ Φ (.inl (some (.int (((sby 1014).getD (nx a) 0 &&& 255).toUInt32 % 65536).toInt32))) μ1)) (fun e μ1 => rtM i_StrL_charAt Φ (.inr e) 0 0 μ1))) : WW g i_StrL_charAt 0 Φ 0 0 0 [(0, .ref 3014), (1, .int a)] [] μ :=
  reg1_sound (cs := []) T_StrL_charAt po_StrL (rtM_ok H_StrL_charAt) 14 H
set_option maxRecDepth 100000 in
set_option maxHeartbeats 4000000 in
theorem wk_1014 : WOK 1014 [111, 114] := by
  intro g Φ μ
  refine ⟨fun H => spi o_Str_length rfl (sl_1014 H), fun i hi H => ?_⟩
  have hi : i < 2 := hi
  have hc : ∀ i, i < 2 → (((sby 1014).getD i 0 &&& 255).toUInt32 % 65536).toInt32 = ([111, 114] : List Int32).getD i 0 ∧ narrow .char (.int (([111, 114] : List Int32).getD i 0)) = .int (([111, 114] : List Int32).getD i 0) := by decide +kernel
  obtain ⟨h1, h2⟩ := hc i hi
  refine spi o_Str_charAt rfl (v_Str_charAt_0 (w := 1014) (spi o_Str_isLatin1 rfl (v_Str_isLatin1_0 (w := 1014) ⟨fun h => absurd h (by decide), fun _ => ⟨fun h => absurd rfl h, fun _ => z11 (oI ⟨fun h => absurd h (by decide), fun _ => spi o_StrL_charAt rfl (sc_1014 (ckx (nI_pos (by omega)) (nI_lt hi (by omega)) (oV ⟨vp_in_nI hi (by decide), ?_⟩)))⟩)⟩⟩)))
  rw [nx_nI (by omega), h1]
  exact ⟨h2, oI ⟨h2, H⟩⟩
set_option maxRecDepth 100000 in
set_option maxHeartbeats 4000000 in
theorem sl_1015 {g : Gl} {Φ : Out → Mem → Prop} {μ : Mem} (H : Φ (.inl (some (.int (nI 5)))) μ) : WW g i_Str_length 0 Φ 0 0 0 [(0, .ref 1015)] [] μ :=
  have H0 : Spec g i_Str_coder 0 [.ref 1015] μ (onI (fun r μ1 => Φ (.inl (some (.int ((nI 5) >>> (r &&& 31))))) μ1) (fun _ _ => False)) := spi o_Str_coder rfl (v_Str_coder_0 ⟨fun h => absurd h (by decide), fun _ => ⟨rfl, oI H⟩⟩)
  reg1_sound (cs := []) T_Str_length po_Str (rtM_ok H_Str_length) 12 H0
set_option maxRecDepth 100000 in
set_option maxHeartbeats 4000000 in
theorem sc_1015 {g : Gl} {Φ : Out → Mem → Prop} {μ : Mem} {a : Int32} (H : Spec g i_Str_checkIndex 0 [.int a, .int (nI 5)] μ (onV (fun μ1 => vp_in a 5 ∧ (narrow .char (.int (((sby 1015).getD (nx a) 0 &&& 255).toUInt32 % 65536).toInt32) = .int (((sby 1015).getD (nx a) 0 &&& 255).toUInt32 % 65536).toInt32 ∧ Φ (.inl (some (.int (((sby 1015).getD (nx a) 0 &&& 255).toUInt32 % 65536).toInt32))) μ1)) (fun e μ1 => rtM i_StrL_charAt Φ (.inr e) 0 0 μ1))) : WW g i_StrL_charAt 0 Φ 0 0 0 [(0, .ref 3015), (1, .int a)] [] μ :=
  reg1_sound (cs := []) T_StrL_charAt po_StrL (rtM_ok H_StrL_charAt) 14 H
set_option maxRecDepth 100000 in
set_option maxHeartbeats 4000000 in
theorem wk_1015 : WOK 1015 [116, 104, 105, 110, 103] := by
  intro g Φ μ
  refine ⟨fun H => spi o_Str_length rfl (sl_1015 H), fun i hi H => ?_⟩
  have hi : i < 5 := hi
  have hc : ∀ i, i < 5 → (((sby 1015).getD i 0 &&& 255).toUInt32 % 65536).toInt32 = ([116, 104, 105, 110, 103] : List Int32).getD i 0 ∧ narrow .char (.int (([116, 104, 105, 110, 103] : List Int32).getD i 0)) = .int (([116, 104, 105, 110, 103] : List Int32).getD i 0) := by decide +kernel
  obtain ⟨h1, h2⟩ := hc i hi
  refine spi o_Str_charAt rfl (v_Str_charAt_0 (w := 1015) (spi o_Str_isLatin1 rfl (v_Str_isLatin1_0 (w := 1015) ⟨fun h => absurd h (by decide), fun _ => ⟨fun h => absurd rfl h, fun _ => z11 (oI ⟨fun h => absurd h (by decide), fun _ => spi o_StrL_charAt rfl (sc_1015 (ckx (nI_pos (by omega)) (nI_lt hi (by omega)) (oV ⟨vp_in_nI hi (by decide), ?_⟩)))⟩)⟩⟩)))
  rw [nx_nI (by omega), h1]
  exact ⟨h2, oI ⟨h2, H⟩⟩
set_option maxRecDepth 100000 in
set_option maxHeartbeats 4000000 in
theorem sl_1016 {g : Gl} {Φ : Out → Mem → Prop} {μ : Mem} (H : Φ (.inl (some (.int (nI 6)))) μ) : WW g i_Str_length 0 Φ 0 0 0 [(0, .ref 1016)] [] μ :=
  have H0 : Spec g i_Str_coder 0 [.ref 1016] μ (onI (fun r μ1 => Φ (.inl (some (.int ((nI 6) >>> (r &&& 31))))) μ1) (fun _ _ => False)) := spi o_Str_coder rfl (v_Str_coder_0 ⟨fun h => absurd h (by decide), fun _ => ⟨rfl, oI H⟩⟩)
  reg1_sound (cs := []) T_Str_length po_Str (rtM_ok H_Str_length) 12 H0
set_option maxRecDepth 100000 in
set_option maxHeartbeats 4000000 in
theorem sc_1016 {g : Gl} {Φ : Out → Mem → Prop} {μ : Mem} {a : Int32} (H : Spec g i_Str_checkIndex 0 [.int a, .int (nI 6)] μ (onV (fun μ1 => vp_in a 6 ∧ (narrow .char (.int (((sby 1016).getD (nx a) 0 &&& 255).toUInt32 % 65536).toInt32) = .int (((sby 1016).getD (nx a) 0 &&& 255).toUInt32 % 65536).toInt32 ∧ Φ (.inl (some (.int (((sby 1016).getD (nx a) 0 &&& 255).toUInt32 % 65536).toInt32))) μ1)) (fun e μ1 => rtM i_StrL_charAt Φ (.inr e) 0 0 μ1))) : WW g i_StrL_charAt 0 Φ 0 0 0 [(0, .ref 3016), (1, .int a)] [] μ :=
  reg1_sound (cs := []) T_StrL_charAt po_StrL (rtM_ok H_StrL_charAt) 14 H
set_option maxRecDepth 100000 in
set_option maxHeartbeats 4000000 in
theorem wk_1016 : WOK 1016 [112, 101, 114, 115, 111, 110] := by
  intro g Φ μ
  refine ⟨fun H => spi o_Str_length rfl (sl_1016 H), fun i hi H => ?_⟩
  have hi : i < 6 := hi
  have hc : ∀ i, i < 6 → (((sby 1016).getD i 0 &&& 255).toUInt32 % 65536).toInt32 = ([112, 101, 114, 115, 111, 110] : List Int32).getD i 0 ∧ narrow .char (.int (([112, 101, 114, 115, 111, 110] : List Int32).getD i 0)) = .int (([112, 101, 114, 115, 111, 110] : List Int32).getD i 0) := by decide +kernel
  obtain ⟨h1, h2⟩ := hc i hi
  refine spi o_Str_charAt rfl (v_Str_charAt_0 (w := 1016) (spi o_Str_isLatin1 rfl (v_Str_isLatin1_0 (w := 1016) ⟨fun h => absurd h (by decide), fun _ => ⟨fun h => absurd rfl h, fun _ => z11 (oI ⟨fun h => absurd h (by decide), fun _ => spi o_StrL_charAt rfl (sc_1016 (ckx (nI_pos (by omega)) (nI_lt hi (by omega)) (oV ⟨vp_in_nI hi (by decide), ?_⟩)))⟩)⟩⟩)))
  rw [nx_nI (by omega), h1]
  exact ⟨h2, oI ⟨h2, H⟩⟩
set_option maxRecDepth 100000 in
set_option maxHeartbeats 4000000 in
theorem sl_1017 {g : Gl} {Φ : Out → Mem → Prop} {μ : Mem} (H : Φ (.inl (some (.int (nI 3)))) μ) : WW g i_Str_length 0 Φ 0 0 0 [(0, .ref 1017)] [] μ :=
  have H0 : Spec g i_Str_coder 0 [.ref 1017] μ (onI (fun r μ1 => Φ (.inl (some (.int ((nI 3) >>> (r &&& 31))))) μ1) (fun _ _ => False)) := spi o_Str_coder rfl (v_Str_coder_0 ⟨fun h => absurd h (by decide), fun _ => ⟨rfl, oI H⟩⟩)
  reg1_sound (cs := []) T_Str_length po_Str (rtM_ok H_Str_length) 12 H0
set_option maxRecDepth 100000 in
set_option maxHeartbeats 4000000 in
theorem sc_1017 {g : Gl} {Φ : Out → Mem → Prop} {μ : Mem} {a : Int32} (H : Spec g i_Str_checkIndex 0 [.int a, .int (nI 3)] μ (onV (fun μ1 => vp_in a 3 ∧ (narrow .char (.int (((sby 1017).getD (nx a) 0 &&& 255).toUInt32 % 65536).toInt32) = .int (((sby 1017).getD (nx a) 0 &&& 255).toUInt32 % 65536).toInt32 ∧ Φ (.inl (some (.int (((sby 1017).getD (nx a) 0 &&& 255).toUInt32 % 65536).toInt32))) μ1)) (fun e μ1 => rtM i_StrL_charAt Φ (.inr e) 0 0 μ1))) : WW g i_StrL_charAt 0 Φ 0 0 0 [(0, .ref 3017), (1, .int a)] [] μ :=
  reg1_sound (cs := []) T_StrL_charAt po_StrL (rtM_ok H_StrL_charAt) 14 H
set_option maxRecDepth 100000 in
set_option maxHeartbeats 4000000 in
theorem wk_1017 : WOK 1017 [101, 97, 114] := by
  intro g Φ μ
  refine ⟨fun H => spi o_Str_length rfl (sl_1017 H), fun i hi H => ?_⟩
  have hi : i < 3 := hi
  have hc : ∀ i, i < 3 → (((sby 1017).getD i 0 &&& 255).toUInt32 % 65536).toInt32 = ([101, 97, 114] : List Int32).getD i 0 ∧ narrow .char (.int (([101, 97, 114] : List Int32).getD i 0)) = .int (([101, 97, 114] : List Int32).getD i 0) := by decide +kernel
  obtain ⟨h1, h2⟩ := hc i hi
  refine spi o_Str_charAt rfl (v_Str_charAt_0 (w := 1017) (spi o_Str_isLatin1 rfl (v_Str_isLatin1_0 (w := 1017) ⟨fun h => absurd h (by decide), fun _ => ⟨fun h => absurd rfl h, fun _ => z11 (oI ⟨fun h => absurd h (by decide), fun _ => spi o_StrL_charAt rfl (sc_1017 (ckx (nI_pos (by omega)) (nI_lt hi (by omega)) (oV ⟨vp_in_nI hi (by decide), ?_⟩)))⟩)⟩⟩)))
  rw [nx_nI (by omega), h1]
  exact ⟨h2, oI ⟨h2, H⟩⟩
set_option maxRecDepth 100000 in
set_option maxHeartbeats 4000000 in
theorem sl_1018 {g : Gl} {Φ : Out → Mem → Prop} {μ : Mem} (H : Φ (.inl (some (.int (nI 7)))) μ) : WW g i_Str_length 0 Φ 0 0 0 [(0, .ref 1018)] [] μ :=
  have H0 : Spec g i_Str_coder 0 [.ref 1018] μ (onI (fun r μ1 => Φ (.inl (some (.int ((nI 7) >>> (r &&& 31))))) μ1) (fun _ _ => False)) := spi o_Str_coder rfl (v_Str_coder_0 ⟨fun h => absurd h (by decide), fun _ => ⟨rfl, oI H⟩⟩)
  reg1_sound (cs := []) T_Str_length po_Str (rtM_ok H_Str_length) 12 H0
set_option maxRecDepth 100000 in
set_option maxHeartbeats 4000000 in
theorem sc_1018 {g : Gl} {Φ : Out → Mem → Prop} {μ : Mem} {a : Int32} (H : Spec g i_Str_checkIndex 0 [.int a, .int (nI 7)] μ (onV (fun μ1 => vp_in a 7 ∧ (narrow .char (.int (((sby 1018).getD (nx a) 0 &&& 255).toUInt32 % 65536).toInt32) = .int (((sby 1018).getD (nx a) 0 &&& 255).toUInt32 % 65536).toInt32 ∧ Φ (.inl (some (.int (((sby 1018).getD (nx a) 0 &&& 255).toUInt32 % 65536).toInt32))) μ1)) (fun e μ1 => rtM i_StrL_charAt Φ (.inr e) 0 0 μ1))) : WW g i_StrL_charAt 0 Φ 0 0 0 [(0, .ref 3018), (1, .int a)] [] μ :=
  reg1_sound (cs := []) T_StrL_charAt po_StrL (rtM_ok H_StrL_charAt) 14 H
set_option maxRecDepth 100000 in
set_option maxHeartbeats 4000000 in
theorem wk_1018 : WOK 1018 [115, 116, 97, 109, 109, 101, 114] := by
  intro g Φ μ
  refine ⟨fun H => spi o_Str_length rfl (sl_1018 H), fun i hi H => ?_⟩
  have hi : i < 7 := hi
  have hc : ∀ i, i < 7 → (((sby 1018).getD i 0 &&& 255).toUInt32 % 65536).toInt32 = ([115, 116, 97, 109, 109, 101, 114] : List Int32).getD i 0 ∧ narrow .char (.int (([115, 116, 97, 109, 109, 101, 114] : List Int32).getD i 0)) = .int (([115, 116, 97, 109, 109, 101, 114] : List Int32).getD i 0) := by decide +kernel
  obtain ⟨h1, h2⟩ := hc i hi
  refine spi o_Str_charAt rfl (v_Str_charAt_0 (w := 1018) (spi o_Str_isLatin1 rfl (v_Str_isLatin1_0 (w := 1018) ⟨fun h => absurd h (by decide), fun _ => ⟨fun h => absurd rfl h, fun _ => z11 (oI ⟨fun h => absurd h (by decide), fun _ => spi o_StrL_charAt rfl (sc_1018 (ckx (nI_pos (by omega)) (nI_lt hi (by omega)) (oV ⟨vp_in_nI hi (by decide), ?_⟩)))⟩)⟩⟩)))
  rw [nx_nI (by omega), h1]
  exact ⟨h2, oI ⟨h2, H⟩⟩
set_option maxRecDepth 100000 in
set_option maxHeartbeats 4000000 in
theorem sl_1019 {g : Gl} {Φ : Out → Mem → Prop} {μ : Mem} (H : Φ (.inl (some (.int (nI 5)))) μ) : WW g i_Str_length 0 Φ 0 0 0 [(0, .ref 1019)] [] μ :=
  have H0 : Spec g i_Str_coder 0 [.ref 1019] μ (onI (fun r μ1 => Φ (.inl (some (.int ((nI 5) >>> (r &&& 31))))) μ1) (fun _ _ => False)) := spi o_Str_coder rfl (v_Str_coder_0 ⟨fun h => absurd h (by decide), fun _ => ⟨rfl, oI H⟩⟩)
  reg1_sound (cs := []) T_Str_length po_Str (rtM_ok H_Str_length) 12 H0
set_option maxRecDepth 100000 in
set_option maxHeartbeats 4000000 in
theorem sc_1019 {g : Gl} {Φ : Out → Mem → Prop} {μ : Mem} {a : Int32} (H : Spec g i_Str_checkIndex 0 [.int a, .int (nI 5)] μ (onV (fun μ1 => vp_in a 5 ∧ (narrow .char (.int (((sby 1019).getD (nx a) 0 &&& 255).toUInt32 % 65536).toInt32) = .int (((sby 1019).getD (nx a) 0 &&& 255).toUInt32 % 65536).toInt32 ∧ Φ (.inl (some (.int (((sby 1019).getD (nx a) 0 &&& 255).toUInt32 % 65536).toInt32))) μ1)) (fun e μ1 => rtM i_StrL_charAt Φ (.inr e) 0 0 μ1))) : WW g i_StrL_charAt 0 Φ 0 0 0 [(0, .ref 3019), (1, .int a)] [] μ :=
  reg1_sound (cs := []) T_StrL_charAt po_StrL (rtM_ok H_StrL_charAt) 14 H
set_option maxRecDepth 100000 in
set_option maxHeartbeats 4000000 in
theorem wk_1019 : WOK 1019 [107, 110, 111, 119, 115] := by
  intro g Φ μ
  refine ⟨fun H => spi o_Str_length rfl (sl_1019 H), fun i hi H => ?_⟩
  have hi : i < 5 := hi
  have hc : ∀ i, i < 5 → (((sby 1019).getD i 0 &&& 255).toUInt32 % 65536).toInt32 = ([107, 110, 111, 119, 115] : List Int32).getD i 0 ∧ narrow .char (.int (([107, 110, 111, 119, 115] : List Int32).getD i 0)) = .int (([107, 110, 111, 119, 115] : List Int32).getD i 0) := by decide +kernel
  obtain ⟨h1, h2⟩ := hc i hi
  refine spi o_Str_charAt rfl (v_Str_charAt_0 (w := 1019) (spi o_Str_isLatin1 rfl (v_Str_isLatin1_0 (w := 1019) ⟨fun h => absurd h (by decide), fun _ => ⟨fun h => absurd rfl h, fun _ => z11 (oI ⟨fun h => absurd h (by decide), fun _ => spi o_StrL_charAt rfl (sc_1019 (ckx (nI_pos (by omega)) (nI_lt hi (by omega)) (oV ⟨vp_in_nI hi (by decide), ?_⟩)))⟩)⟩⟩)))
  rw [nx_nI (by omega), h1]
  exact ⟨h2, oI ⟨h2, H⟩⟩
set_option maxRecDepth 100000 in
set_option maxHeartbeats 4000000 in
theorem sl_1020 {g : Gl} {Φ : Out → Mem → Prop} {μ : Mem} (H : Φ (.inl (some (.int (nI 6)))) μ) : WW g i_Str_length 0 Φ 0 0 0 [(0, .ref 1020)] [] μ :=
  have H0 : Spec g i_Str_coder 0 [.ref 1020] μ (onI (fun r μ1 => Φ (.inl (some (.int ((nI 6) >>> (r &&& 31))))) μ1) (fun _ _ => False)) := spi o_Str_coder rfl (v_Str_coder_0 ⟨fun h => absurd h (by decide), fun _ => ⟨rfl, oI H⟩⟩)
  reg1_sound (cs := []) T_Str_length po_Str (rtM_ok H_Str_length) 12 H0
set_option maxRecDepth 100000 in
set_option maxHeartbeats 4000000 in
theorem sc_1020 {g : Gl} {Φ : Out → Mem → Prop} {μ : Mem} {a : Int32} (H : Spec g i_Str_checkIndex 0 [.int a, .int (nI 6)] μ (onV (fun μ1 => vp_in a 6 ∧ (narrow .char (.int (((sby 1020).getD (nx a) 0 &&& 255).toUInt32 % 65536).toInt32) = .int (((sby 1020).getD (nx a) 0 &&& 255).toUInt32 % 65536).toInt32 ∧ Φ (.inl (some (.int (((sby 1020).getD (nx a) 0 &&& 255).toUInt32 % 65536).toInt32))) μ1)) (fun e μ1 => rtM i_StrL_charAt Φ (.inr e) 0 0 μ1))) : WW g i_StrL_charAt 0 Φ 0 0 0 [(0, .ref 3020), (1, .int a)] [] μ :=
  reg1_sound (cs := []) T_StrL_charAt po_StrL (rtM_ok H_StrL_charAt) 14 H
set_option maxRecDepth 100000 in
set_option maxHeartbeats 4000000 in
theorem wk_1020 : WOK 1020 [102, 111, 108, 108, 111, 119] := by
  intro g Φ μ
  refine ⟨fun H => spi o_Str_length rfl (sl_1020 H), fun i hi H => ?_⟩
  have hi : i < 6 := hi
  have hc : ∀ i, i < 6 → (((sby 1020).getD i 0 &&& 255).toUInt32 % 65536).toInt32 = ([102, 111, 108, 108, 111, 119] : List Int32).getD i 0 ∧ narrow .char (.int (([102, 111, 108, 108, 111, 119] : List Int32).getD i 0)) = .int (([102, 111, 108, 108, 111, 119] : List Int32).getD i 0) := by decide +kernel
  obtain ⟨h1, h2⟩ := hc i hi
  refine spi o_Str_charAt rfl (v_Str_charAt_0 (w := 1020) (spi o_Str_isLatin1 rfl (v_Str_isLatin1_0 (w := 1020) ⟨fun h => absurd h (by decide), fun _ => ⟨fun h => absurd rfl h, fun _ => z11 (oI ⟨fun h => absurd h (by decide), fun _ => spi o_StrL_charAt rfl (sc_1020 (ckx (nI_pos (by omega)) (nI_lt hi (by omega)) (oV ⟨vp_in_nI hi (by decide), ?_⟩)))⟩)⟩⟩)))
  rw [nx_nI (by omega), h1]
  exact ⟨h2, oI ⟨h2, H⟩⟩
set_option maxRecDepth 100000 in
set_option maxHeartbeats 4000000 in
theorem sl_1021 {g : Gl} {Φ : Out → Mem → Prop} {μ : Mem} (H : Φ (.inl (some (.int (nI 4)))) μ) : WW g i_Str_length 0 Φ 0 0 0 [(0, .ref 1021)] [] μ :=
  have H0 : Spec g i_Str_coder 0 [.ref 1021] μ (onI (fun r μ1 => Φ (.inl (some (.int ((nI 4) >>> (r &&& 31))))) μ1) (fun _ _ => False)) := spi o_Str_coder rfl (v_Str_coder_0 ⟨fun h => absurd h (by decide), fun _ => ⟨rfl, oI H⟩⟩)
  reg1_sound (cs := []) T_Str_length po_Str (rtM_ok H_Str_length) 12 H0
set_option maxRecDepth 100000 in
set_option maxHeartbeats 4000000 in
theorem sc_1021 {g : Gl} {Φ : Out → Mem → Prop} {μ : Mem} {a : Int32} (H : Spec g i_Str_checkIndex 0 [.int a, .int (nI 4)] μ (onV (fun μ1 => vp_in a 4 ∧ (narrow .char (.int (((sby 1021).getD (nx a) 0 &&& 255).toUInt32 % 65536).toInt32) = .int (((sby 1021).getD (nx a) 0 &&& 255).toUInt32 % 65536).toInt32 ∧ Φ (.inl (some (.int (((sby 1021).getD (nx a) 0 &&& 255).toUInt32 % 65536).toInt32))) μ1)) (fun e μ1 => rtM i_StrL_charAt Φ (.inr e) 0 0 μ1))) : WW g i_StrL_charAt 0 Φ 0 0 0 [(0, .ref 3021), (1, .int a)] [] μ :=
  reg1_sound (cs := []) T_StrL_charAt po_StrL (rtM_ok H_StrL_charAt) 14 H
set_option maxRecDepth 100000 in
set_option maxHeartbeats 4000000 in
theorem wk_1021 : WOK 1021 [115, 97, 105, 100] := by
  intro g Φ μ
  refine ⟨fun H => spi o_Str_length rfl (sl_1021 H), fun i hi H => ?_⟩
  have hi : i < 4 := hi
  have hc : ∀ i, i < 4 → (((sby 1021).getD i 0 &&& 255).toUInt32 % 65536).toInt32 = ([115, 97, 105, 100] : List Int32).getD i 0 ∧ narrow .char (.int (([115, 97, 105, 100] : List Int32).getD i 0)) = .int (([115, 97, 105, 100] : List Int32).getD i 0) := by decide +kernel
  obtain ⟨h1, h2⟩ := hc i hi
  refine spi o_Str_charAt rfl (v_Str_charAt_0 (w := 1021) (spi o_Str_isLatin1 rfl (v_Str_isLatin1_0 (w := 1021) ⟨fun h => absurd h (by decide), fun _ => ⟨fun h => absurd rfl h, fun _ => z11 (oI ⟨fun h => absurd h (by decide), fun _ => spi o_StrL_charAt rfl (sc_1021 (ckx (nI_pos (by omega)) (nI_lt hi (by omega)) (oV ⟨vp_in_nI hi (by decide), ?_⟩)))⟩)⟩⟩)))
  rw [nx_nI (by omega), h1]
  exact ⟨h2, oI ⟨h2, H⟩⟩
set_option maxRecDepth 100000 in
set_option maxHeartbeats 4000000 in
theorem sl_1022 {g : Gl} {Φ : Out → Mem → Prop} {μ : Mem} (H : Φ (.inl (some (.int (nI 6)))) μ) : WW g i_Str_length 0 Φ 0 0 0 [(0, .ref 1022)] [] μ :=
  have H0 : Spec g i_Str_coder 0 [.ref 1022] μ (onI (fun r μ1 => Φ (.inl (some (.int ((nI 6) >>> (r &&& 31))))) μ1) (fun _ _ => False)) := spi o_Str_coder rfl (v_Str_coder_0 ⟨fun h => absurd h (by decide), fun _ => ⟨rfl, oI H⟩⟩)
  reg1_sound (cs := []) T_Str_length po_Str (rtM_ok H_Str_length) 12 H0
set_option maxRecDepth 100000 in
set_option maxHeartbeats 4000000 in
theorem sc_1022 {g : Gl} {Φ : Out → Mem → Prop} {μ : Mem} {a : Int32} (H : Spec g i_Str_checkIndex 0 [.int a, .int (nI 6)] μ (onV (fun μ1 => vp_in a 6 ∧ (narrow .char (.int (((sby 1022).getD (nx a) 0 &&& 255).toUInt32 % 65536).toInt32) = .int (((sby 1022).getD (nx a) 0 &&& 255).toUInt32 % 65536).toInt32 ∧ Φ (.inl (some (.int (((sby 1022).getD (nx a) 0 &&& 255).toUInt32 % 65536).toInt32))) μ1)) (fun e μ1 => rtM i_StrL_charAt Φ (.inr e) 0 0 μ1))) : WW g i_StrL_charAt 0 Φ 0 0 0 [(0, .ref 3022), (1, .int a)] [] μ :=
  reg1_sound (cs := []) T_StrL_charAt po_StrL (rtM_ok H_StrL_charAt) 14 H
set_option maxRecDepth 100000 in
set_option maxHeartbeats 4000000 in
theorem wk_1022 : WOK 1022 [97, 98, 115, 101, 110, 116] := by
  intro g Φ μ
  refine ⟨fun H => spi o_Str_length rfl (sl_1022 H), fun i hi H => ?_⟩
  have hi : i < 6 := hi
  have hc : ∀ i, i < 6 → (((sby 1022).getD i 0 &&& 255).toUInt32 % 65536).toInt32 = ([97, 98, 115, 101, 110, 116] : List Int32).getD i 0 ∧ narrow .char (.int (([97, 98, 115, 101, 110, 116] : List Int32).getD i 0)) = .int (([97, 98, 115, 101, 110, 116] : List Int32).getD i 0) := by decide +kernel
  obtain ⟨h1, h2⟩ := hc i hi
  refine spi o_Str_charAt rfl (v_Str_charAt_0 (w := 1022) (spi o_Str_isLatin1 rfl (v_Str_isLatin1_0 (w := 1022) ⟨fun h => absurd h (by decide), fun _ => ⟨fun h => absurd rfl h, fun _ => z11 (oI ⟨fun h => absurd h (by decide), fun _ => spi o_StrL_charAt rfl (sc_1022 (ckx (nI_pos (by omega)) (nI_lt hi (by omega)) (oV ⟨vp_in_nI hi (by decide), ?_⟩)))⟩)⟩⟩)))
  rw [nx_nI (by omega), h1]
  exact ⟨h2, oI ⟨h2, H⟩⟩
set_option maxRecDepth 100000 in
set_option maxHeartbeats 4000000 in
theorem sl_1023 {g : Gl} {Φ : Out → Mem → Prop} {μ : Mem} (H : Φ (.inl (some (.int (nI 4)))) μ) : WW g i_Str_length 0 Φ 0 0 0 [(0, .ref 1023)] [] μ :=
  have H0 : Spec g i_Str_coder 0 [.ref 1023] μ (onI (fun r μ1 => Φ (.inl (some (.int ((nI 4) >>> (r &&& 31))))) μ1) (fun _ _ => False)) := spi o_Str_coder rfl (v_Str_coder_0 ⟨fun h => absurd h (by decide), fun _ => ⟨rfl, oI H⟩⟩)
  reg1_sound (cs := []) T_Str_length po_Str (rtM_ok H_Str_length) 12 H0
set_option maxRecDepth 100000 in
set_option maxHeartbeats 4000000 in
theorem sc_1023 {g : Gl} {Φ : Out → Mem → Prop} {μ : Mem} {a : Int32} (H : Spec g i_Str_checkIndex 0 [.int a, .int (nI 4)] μ (onV (fun μ1 => vp_in a 4 ∧ (narrow .char (.int (((sby 1023).getD (nx a) 0 &&& 255).toUInt32 % 65536).toInt32) = .int (((sby 1023).getD (nx a) 0 &&& 255).toUInt32 % 65536).toInt32 ∧ Φ (.inl (some (.int (((sby 1023).getD (nx a) 0 &&& 255).toUInt32 % 65536).toInt32))) μ1)) (fun e μ1 => rtM i_StrL_charAt Φ (.inr e) 0 0 μ1))) : WW g i_StrL_charAt 0 Φ 0 0 0 [(0, .ref 3023), (1, .int a)] [] μ :=
  reg1_sound (cs := []) T_StrL_charAt po_StrL (rtM_ok H_StrL_charAt) 14 H
set_option maxRecDepth 100000 in
set_option maxHeartbeats 4000000 in
theorem wk_1023 : WOK 1023 [108, 111, 117, 100] := by
  intro g Φ μ
  refine ⟨fun H => spi o_Str_length rfl (sl_1023 H), fun i hi H => ?_⟩
  have hi : i < 4 := hi
  have hc : ∀ i, i < 4 → (((sby 1023).getD i 0 &&& 255).toUInt32 % 65536).toInt32 = ([108, 111, 117, 100] : List Int32).getD i 0 ∧ narrow .char (.int (([108, 111, 117, 100] : List Int32).getD i 0)) = .int (([108, 111, 117, 100] : List Int32).getD i 0) := by decide +kernel
  obtain ⟨h1, h2⟩ := hc i hi
  refine spi o_Str_charAt rfl (v_Str_charAt_0 (w := 1023) (spi o_Str_isLatin1 rfl (v_Str_isLatin1_0 (w := 1023) ⟨fun h => absurd h (by decide), fun _ => ⟨fun h => absurd rfl h, fun _ => z11 (oI ⟨fun h => absurd h (by decide), fun _ => spi o_StrL_charAt rfl (sc_1023 (ckx (nI_pos (by omega)) (nI_lt hi (by omega)) (oV ⟨vp_in_nI hi (by decide), ?_⟩)))⟩)⟩⟩)))
  rw [nx_nI (by omega), h1]
  exact ⟨h2, oI ⟨h2, H⟩⟩
set_option maxRecDepth 100000 in
set_option maxHeartbeats 4000000 in
theorem sl_1039 {g : Gl} {Φ : Out → Mem → Prop} {μ : Mem} (H : Φ (.inl (some (.int (nI 5)))) μ) : WW g i_Str_length 0 Φ 0 0 0 [(0, .ref 1039)] [] μ :=
  have H0 : Spec g i_Str_coder 0 [.ref 1039] μ (onI (fun r μ1 => Φ (.inl (some (.int ((nI 5) >>> (r &&& 31))))) μ1) (fun _ _ => False)) := spi o_Str_coder rfl (v_Str_coder_0 ⟨fun h => absurd h (by decide), fun _ => ⟨rfl, oI H⟩⟩)
  reg1_sound (cs := []) T_Str_length po_Str (rtM_ok H_Str_length) 12 H0
set_option maxRecDepth 100000 in
set_option maxHeartbeats 4000000 in
theorem sc_1039 {g : Gl} {Φ : Out → Mem → Prop} {μ : Mem} {a : Int32} (H : Spec g i_Str_checkIndex 0 [.int a, .int (nI 5)] μ (onV (fun μ1 => vp_in a 5 ∧ (narrow .char (.int (((sby 1039).getD (nx a) 0 &&& 255).toUInt32 % 65536).toInt32) = .int (((sby 1039).getD (nx a) 0 &&& 255).toUInt32 % 65536).toInt32 ∧ Φ (.inl (some (.int (((sby 1039).getD (nx a) 0 &&& 255).toUInt32 % 65536).toInt32))) μ1)) (fun e μ1 => rtM i_StrL_charAt Φ (.inr e) 0 0 μ1))) : WW g i_StrL_charAt 0 Φ 0 0 0 [(0, .ref 3039), (1, .int a)] [] μ :=
  reg1_sound (cs := []) T_StrL_charAt po_StrL (rtM_ok H_StrL_charAt) 14 H
set_option maxRecDepth 100000 in
set_option maxHeartbeats 4000000 in
theorem wk_1039 : WOK 1039 [116, 104, 105, 110, 103] := by
  intro g Φ μ
  refine ⟨fun H => spi o_Str_length rfl (sl_1039 H), fun i hi H => ?_⟩
  have hi : i < 5 := hi
  have hc : ∀ i, i < 5 → (((sby 1039).getD i 0 &&& 255).toUInt32 % 65536).toInt32 = ([116, 104, 105, 110, 103] : List Int32).getD i 0 ∧ narrow .char (.int (([116, 104, 105, 110, 103] : List Int32).getD i 0)) = .int (([116, 104, 105, 110, 103] : List Int32).getD i 0) := by decide +kernel
  obtain ⟨h1, h2⟩ := hc i hi
  refine spi o_Str_charAt rfl (v_Str_charAt_0 (w := 1039) (spi o_Str_isLatin1 rfl (v_Str_isLatin1_0 (w := 1039) ⟨fun h => absurd h (by decide), fun _ => ⟨fun h => absurd rfl h, fun _ => z11 (oI ⟨fun h => absurd h (by decide), fun _ => spi o_StrL_charAt rfl (sc_1039 (ckx (nI_pos (by omega)) (nI_lt hi (by omega)) (oV ⟨vp_in_nI hi (by decide), ?_⟩)))⟩)⟩⟩)))
  rw [nx_nI (by omega), h1]
  exact ⟨h2, oI ⟨h2, H⟩⟩
set_option maxRecDepth 100000 in
set_option maxHeartbeats 4000000 in
theorem sl_1040 {g : Gl} {Φ : Out → Mem → Prop} {μ : Mem} (H : Φ (.inl (some (.int (nI 6)))) μ) : WW g i_Str_length 0 Φ 0 0 0 [(0, .ref 1040)] [] μ :=
  have H0 : Spec g i_Str_coder 0 [.ref 1040] μ (onI (fun r μ1 => Φ (.inl (some (.int ((nI 6) >>> (r &&& 31))))) μ1) (fun _ _ => False)) := spi o_Str_coder rfl (v_Str_coder_0 ⟨fun h => absurd h (by decide), fun _ => ⟨rfl, oI H⟩⟩)
  reg1_sound (cs := []) T_Str_length po_Str (rtM_ok H_Str_length) 12 H0
set_option maxRecDepth 100000 in
set_option maxHeartbeats 4000000 in
theorem sc_1040 {g : Gl} {Φ : Out → Mem → Prop} {μ : Mem} {a : Int32} (H : Spec g i_Str_checkIndex 0 [.int a, .int (nI 6)] μ (onV (fun μ1 => vp_in a 6 ∧ (narrow .char (.int (((sby 1040).getD (nx a) 0 &&& 255).toUInt32 % 65536).toInt32) = .int (((sby 1040).getD (nx a) 0 &&& 255).toUInt32 % 65536).toInt32 ∧ Φ (.inl (some (.int (((sby 1040).getD (nx a) 0 &&& 255).toUInt32 % 65536).toInt32))) μ1)) (fun e μ1 => rtM i_StrL_charAt Φ (.inr e) 0 0 μ1))) : WW g i_StrL_charAt 0 Φ 0 0 0 [(0, .ref 3040), (1, .int a)] [] μ :=
  reg1_sound (cs := []) T_StrL_charAt po_StrL (rtM_ok H_StrL_charAt) 14 H
set_option maxRecDepth 100000 in
set_option maxHeartbeats 4000000 in
theorem wk_1040 : WOK 1040 [112, 101, 114, 115, 111, 110] := by
  intro g Φ μ
  refine ⟨fun H => spi o_Str_length rfl (sl_1040 H), fun i hi H => ?_⟩
  have hi : i < 6 := hi
  have hc : ∀ i, i < 6 → (((sby 1040).getD i 0 &&& 255).toUInt32 % 65536).toInt32 = ([112, 101, 114, 115, 111, 110] : List Int32).getD i 0 ∧ narrow .char (.int (([112, 101, 114, 115, 111, 110] : List Int32).getD i 0)) = .int (([112, 101, 114, 115, 111, 110] : List Int32).getD i 0) := by decide +kernel
  obtain ⟨h1, h2⟩ := hc i hi
  refine spi o_Str_charAt rfl (v_Str_charAt_0 (w := 1040) (spi o_Str_isLatin1 rfl (v_Str_isLatin1_0 (w := 1040) ⟨fun h => absurd h (by decide), fun _ => ⟨fun h => absurd rfl h, fun _ => z11 (oI ⟨fun h => absurd h (by decide), fun _ => spi o_StrL_charAt rfl (sc_1040 (ckx (nI_pos (by omega)) (nI_lt hi (by omega)) (oV ⟨vp_in_nI hi (by decide), ?_⟩)))⟩)⟩⟩)))
  rw [nx_nI (by omega), h1]
  exact ⟨h2, oI ⟨h2, H⟩⟩
set_option maxRecDepth 100000 in
set_option maxHeartbeats 4000000 in
theorem sl_1041 {g : Gl} {Φ : Out → Mem → Prop} {μ : Mem} (H : Φ (.inl (some (.int (nI 3)))) μ) : WW g i_Str_length 0 Φ 0 0 0 [(0, .ref 1041)] [] μ :=
  have H0 : Spec g i_Str_coder 0 [.ref 1041] μ (onI (fun r μ1 => Φ (.inl (some (.int ((nI 3) >>> (r &&& 31))))) μ1) (fun _ _ => False)) := spi o_Str_coder rfl (v_Str_coder_0 ⟨fun h => absurd h (by decide), fun _ => ⟨rfl, oI H⟩⟩)
  reg1_sound (cs := []) T_Str_length po_Str (rtM_ok H_Str_length) 12 H0
set_option maxRecDepth 100000 in
set_option maxHeartbeats 4000000 in
theorem sc_1041 {g : Gl} {Φ : Out → Mem → Prop} {μ : Mem} {a : Int32} (H : Spec g i_Str_checkIndex 0 [.int a, .int (nI 3)] μ (onV (fun μ1 => vp_in a 3 ∧ (narrow .char (.int (((sby 1041).getD (nx a) 0 &&& 255).toUInt32 % 65536).toInt32) = .int (((sby 1041).getD (nx a) 0 &&& 255).toUInt32 % 65536).toInt32 ∧ Φ (.inl (some (.int (((sby 1041).getD (nx a) 0 &&& 255).toUInt32 % 65536).toInt32))) μ1)) (fun e μ1 => rtM i_StrL_charAt Φ (.inr e) 0 0 μ1))) : WW g i_StrL_charAt 0 Φ 0 0 0 [(0, .ref 3041), (1, .int a)] [] μ :=
  reg1_sound (cs := []) T_StrL_charAt po_StrL (rtM_ok H_StrL_charAt) 14 H
set_option maxRecDepth 100000 in
set_option maxHeartbeats 4000000 in
theorem wk_1041 : WOK 1041 [101, 97, 114] := by
  intro g Φ μ
  refine ⟨fun H => spi o_Str_length rfl (sl_1041 H), fun i hi H => ?_⟩
  have hi : i < 3 := hi
  have hc : ∀ i, i < 3 → (((sby 1041).getD i 0 &&& 255).toUInt32 % 65536).toInt32 = ([101, 97, 114] : List Int32).getD i 0 ∧ narrow .char (.int (([101, 97, 114] : List Int32).getD i 0)) = .int (([101, 97, 114] : List Int32).getD i 0) := by decide +kernel
  obtain ⟨h1, h2⟩ := hc i hi
  refine spi o_Str_charAt rfl (v_Str_charAt_0 (w := 1041) (spi o_Str_isLatin1 rfl (v_Str_isLatin1_0 (w := 1041) ⟨fun h => absurd h (by decide), fun _ => ⟨fun h => absurd rfl h, fun _ => z11 (oI ⟨fun h => absurd h (by decide), fun _ => spi o_StrL_charAt rfl (sc_1041 (ckx (nI_pos (by omega)) (nI_lt hi (by omega)) (oV ⟨vp_in_nI hi (by decide), ?_⟩)))⟩)⟩⟩)))
  rw [nx_nI (by omega), h1]
  exact ⟨h2, oI ⟨h2, H⟩⟩
set_option maxRecDepth 100000 in
set_option maxHeartbeats 4000000 in
theorem sl_1042 {g : Gl} {Φ : Out → Mem → Prop} {μ : Mem} (H : Φ (.inl (some (.int (nI 7)))) μ) : WW g i_Str_length 0 Φ 0 0 0 [(0, .ref 1042)] [] μ :=
  have H0 : Spec g i_Str_coder 0 [.ref 1042] μ (onI (fun r μ1 => Φ (.inl (some (.int ((nI 7) >>> (r &&& 31))))) μ1) (fun _ _ => False)) := spi o_Str_coder rfl (v_Str_coder_0 ⟨fun h => absurd h (by decide), fun _ => ⟨rfl, oI H⟩⟩)
  reg1_sound (cs := []) T_Str_length po_Str (rtM_ok H_Str_length) 12 H0
set_option maxRecDepth 100000 in
set_option maxHeartbeats 4000000 in
theorem sc_1042 {g : Gl} {Φ : Out → Mem → Prop} {μ : Mem} {a : Int32} (H : Spec g i_Str_checkIndex 0 [.int a, .int (nI 7)] μ (onV (fun μ1 => vp_in a 7 ∧ (narrow .char (.int (((sby 1042).getD (nx a) 0 &&& 255).toUInt32 % 65536).toInt32) = .int (((sby 1042).getD (nx a) 0 &&& 255).toUInt32 % 65536).toInt32 ∧ Φ (.inl (some (.int (((sby 1042).getD (nx a) 0 &&& 255).toUInt32 % 65536).toInt32))) μ1)) (fun e μ1 => rtM i_StrL_charAt Φ (.inr e) 0 0 μ1))) : WW g i_StrL_charAt 0 Φ 0 0 0 [(0, .ref 3042), (1, .int a)] [] μ :=
  reg1_sound (cs := []) T_StrL_charAt po_StrL (rtM_ok H_StrL_charAt) 14 H
set_option maxRecDepth 100000 in
set_option maxHeartbeats 4000000 in
theorem wk_1042 : WOK 1042 [115, 116, 97, 109, 109, 101, 114] := by
  intro g Φ μ
  refine ⟨fun H => spi o_Str_length rfl (sl_1042 H), fun i hi H => ?_⟩
  have hi : i < 7 := hi
  have hc : ∀ i, i < 7 → (((sby 1042).getD i 0 &&& 255).toUInt32 % 65536).toInt32 = ([115, 116, 97, 109, 109, 101, 114] : List Int32).getD i 0 ∧ narrow .char (.int (([115, 116, 97, 109, 109, 101, 114] : List Int32).getD i 0)) = .int (([115, 116, 97, 109, 109, 101, 114] : List Int32).getD i 0) := by decide +kernel
  obtain ⟨h1, h2⟩ := hc i hi
  refine spi o_Str_charAt rfl (v_Str_charAt_0 (w := 1042) (spi o_Str_isLatin1 rfl (v_Str_isLatin1_0 (w := 1042) ⟨fun h => absurd h (by decide), fun _ => ⟨fun h => absurd rfl h, fun _ => z11 (oI ⟨fun h => absurd h (by decide), fun _ => spi o_StrL_charAt rfl (sc_1042 (ckx (nI_pos (by omega)) (nI_lt hi (by omega)) (oV ⟨vp_in_nI hi (by decide), ?_⟩)))⟩)⟩⟩)))
  rw [nx_nI (by omega), h1]
  exact ⟨h2, oI ⟨h2, H⟩⟩
set_option maxRecDepth 100000 in
set_option maxHeartbeats 4000000 in
theorem sl_1043 {g : Gl} {Φ : Out → Mem → Prop} {μ : Mem} (H : Φ (.inl (some (.int (nI 5)))) μ) : WW g i_Str_length 0 Φ 0 0 0 [(0, .ref 1043)] [] μ :=
  have H0 : Spec g i_Str_coder 0 [.ref 1043] μ (onI (fun r μ1 => Φ (.inl (some (.int ((nI 5) >>> (r &&& 31))))) μ1) (fun _ _ => False)) := spi o_Str_coder rfl (v_Str_coder_0 ⟨fun h => absurd h (by decide), fun _ => ⟨rfl, oI H⟩⟩)
  reg1_sound (cs := []) T_Str_length po_Str (rtM_ok H_Str_length) 12 H0
set_option maxRecDepth 100000 in
set_option maxHeartbeats 4000000 in
theorem sc_1043 {g : Gl} {Φ : Out → Mem → Prop} {μ : Mem} {a : Int32} (H : Spec g i_Str_checkIndex 0 [.int a, .int (nI 5)] μ (onV (fun μ1 => vp_in a 5 ∧ (narrow .char (.int (((sby 1043).getD (nx a) 0 &&& 255).toUInt32 % 65536).toInt32) = .int (((sby 1043).getD (nx a) 0 &&& 255).toUInt32 % 65536).toInt32 ∧ Φ (.inl (some (.int (((sby 1043).getD (nx a) 0 &&& 255).toUInt32 % 65536).toInt32))) μ1)) (fun e μ1 => rtM i_StrL_charAt Φ (.inr e) 0 0 μ1))) : WW g i_StrL_charAt 0 Φ 0 0 0 [(0, .ref 3043), (1, .int a)] [] μ :=
  reg1_sound (cs := []) T_StrL_charAt po_StrL (rtM_ok H_StrL_charAt) 14 H
set_option maxRecDepth 100000 in
set_option maxHeartbeats 4000000 in
theorem wk_1043 : WOK 1043 [107, 110, 111, 119, 115] := by
  intro g Φ μ
  refine ⟨fun H => spi o_Str_length rfl (sl_1043 H), fun i hi H => ?_⟩
  have hi : i < 5 := hi
  have hc : ∀ i, i < 5 → (((sby 1043).getD i 0 &&& 255).toUInt32 % 65536).toInt32 = ([107, 110, 111, 119, 115] : List Int32).getD i 0 ∧ narrow .char (.int (([107, 110, 111, 119, 115] : List Int32).getD i 0)) = .int (([107, 110, 111, 119, 115] : List Int32).getD i 0) := by decide +kernel
  obtain ⟨h1, h2⟩ := hc i hi
  refine spi o_Str_charAt rfl (v_Str_charAt_0 (w := 1043) (spi o_Str_isLatin1 rfl (v_Str_isLatin1_0 (w := 1043) ⟨fun h => absurd h (by decide), fun _ => ⟨fun h => absurd rfl h, fun _ => z11 (oI ⟨fun h => absurd h (by decide), fun _ => spi o_StrL_charAt rfl (sc_1043 (ckx (nI_pos (by omega)) (nI_lt hi (by omega)) (oV ⟨vp_in_nI hi (by decide), ?_⟩)))⟩)⟩⟩)))
  rw [nx_nI (by omega), h1]
  exact ⟨h2, oI ⟨h2, H⟩⟩
set_option maxRecDepth 100000 in
set_option maxHeartbeats 4000000 in
theorem sl_1044 {g : Gl} {Φ : Out → Mem → Prop} {μ : Mem} (H : Φ (.inl (some (.int (nI 6)))) μ) : WW g i_Str_length 0 Φ 0 0 0 [(0, .ref 1044)] [] μ :=
  have H0 : Spec g i_Str_coder 0 [.ref 1044] μ (onI (fun r μ1 => Φ (.inl (some (.int ((nI 6) >>> (r &&& 31))))) μ1) (fun _ _ => False)) := spi o_Str_coder rfl (v_Str_coder_0 ⟨fun h => absurd h (by decide), fun _ => ⟨rfl, oI H⟩⟩)
  reg1_sound (cs := []) T_Str_length po_Str (rtM_ok H_Str_length) 12 H0
set_option maxRecDepth 100000 in
set_option maxHeartbeats 4000000 in
theorem sc_1044 {g : Gl} {Φ : Out → Mem → Prop} {μ : Mem} {a : Int32} (H : Spec g i_Str_checkIndex 0 [.int a, .int (nI 6)] μ (onV (fun μ1 => vp_in a 6 ∧ (narrow .char (.int (((sby 1044).getD (nx a) 0 &&& 255).toUInt32 % 65536).toInt32) = .int (((sby 1044).getD (nx a) 0 &&& 255).toUInt32 % 65536).toInt32 ∧ Φ (.inl (some (.int (((sby 1044).getD (nx a) 0 &&& 255).toUInt32 % 65536).toInt32))) μ1)) (fun e μ1 => rtM i_StrL_charAt Φ (.inr e) 0 0 μ1))) : WW g i_StrL_charAt 0 Φ 0 0 0 [(0, .ref 3044), (1, .int a)] [] μ :=
  reg1_sound (cs := []) T_StrL_charAt po_StrL (rtM_ok H_StrL_charAt) 14 H
set_option maxRecDepth 100000 in
set_option maxHeartbeats 4000000 in
theorem wk_1044 : WOK 1044 [102, 111, 108, 108, 111, 119] := by
  intro g Φ μ
  refine ⟨fun H => spi o_Str_length rfl (sl_1044 H), fun i hi H => ?_⟩
  have hi : i < 6 := hi
  have hc : ∀ i, i < 6 → (((sby 1044).getD i 0 &&& 255).toUInt32 % 65536).toInt32 = ([102, 111, 108, 108, 111, 119] : List Int32).getD i 0 ∧ narrow .char (.int (([102, 111, 108, 108, 111, 119] : List Int32).getD i 0)) = .int (([102, 111, 108, 108, 111, 119] : List Int32).getD i 0) := by decide +kernel
  obtain ⟨h1, h2⟩ := hc i hi
  refine spi o_Str_charAt rfl (v_Str_charAt_0 (w := 1044) (spi o_Str_isLatin1 rfl (v_Str_isLatin1_0 (w := 1044) ⟨fun h => absurd h (by decide), fun _ => ⟨fun h => absurd rfl h, fun _ => z11 (oI ⟨fun h => absurd h (by decide), fun _ => spi o_StrL_charAt rfl (sc_1044 (ckx (nI_pos (by omega)) (nI_lt hi (by omega)) (oV ⟨vp_in_nI hi (by decide), ?_⟩)))⟩)⟩⟩)))
  rw [nx_nI (by omega), h1]
  exact ⟨h2, oI ⟨h2, H⟩⟩
set_option maxRecDepth 100000 in
set_option maxHeartbeats 4000000 in
theorem sl_1045 {g : Gl} {Φ : Out → Mem → Prop} {μ : Mem} (H : Φ (.inl (some (.int (nI 4)))) μ) : WW g i_Str_length 0 Φ 0 0 0 [(0, .ref 1045)] [] μ :=
  have H0 : Spec g i_Str_coder 0 [.ref 1045] μ (onI (fun r μ1 => Φ (.inl (some (.int ((nI 4) >>> (r &&& 31))))) μ1) (fun _ _ => False)) := spi o_Str_coder rfl (v_Str_coder_0 ⟨fun h => absurd h (by decide), fun _ => ⟨rfl, oI H⟩⟩)
  reg1_sound (cs := []) T_Str_length po_Str (rtM_ok H_Str_length) 12 H0
set_option maxRecDepth 100000 in
set_option maxHeartbeats 4000000 in
theorem sc_1045 {g : Gl} {Φ : Out → Mem → Prop} {μ : Mem} {a : Int32} (H : Spec g i_Str_checkIndex 0 [.int a, .int (nI 4)] μ (onV (fun μ1 => vp_in a 4 ∧ (narrow .char (.int (((sby 1045).getD (nx a) 0 &&& 255).toUInt32 % 65536).toInt32) = .int (((sby 1045).getD (nx a) 0 &&& 255).toUInt32 % 65536).toInt32 ∧ Φ (.inl (some (.int (((sby 1045).getD (nx a) 0 &&& 255).toUInt32 % 65536).toInt32))) μ1)) (fun e μ1 => rtM i_StrL_charAt Φ (.inr e) 0 0 μ1))) : WW g i_StrL_charAt 0 Φ 0 0 0 [(0, .ref 3045), (1, .int a)] [] μ :=
  reg1_sound (cs := []) T_StrL_charAt po_StrL (rtM_ok H_StrL_charAt) 14 H
set_option maxRecDepth 100000 in
set_option maxHeartbeats 4000000 in
theorem wk_1045 : WOK 1045 [115, 97, 105, 100] := by
  intro g Φ μ
  refine ⟨fun H => spi o_Str_length rfl (sl_1045 H), fun i hi H => ?_⟩
  have hi : i < 4 := hi
  have hc : ∀ i, i < 4 → (((sby 1045).getD i 0 &&& 255).toUInt32 % 65536).toInt32 = ([115, 97, 105, 100] : List Int32).getD i 0 ∧ narrow .char (.int (([115, 97, 105, 100] : List Int32).getD i 0)) = .int (([115, 97, 105, 100] : List Int32).getD i 0) := by decide +kernel
  obtain ⟨h1, h2⟩ := hc i hi
  refine spi o_Str_charAt rfl (v_Str_charAt_0 (w := 1045) (spi o_Str_isLatin1 rfl (v_Str_isLatin1_0 (w := 1045) ⟨fun h => absurd h (by decide), fun _ => ⟨fun h => absurd rfl h, fun _ => z11 (oI ⟨fun h => absurd h (by decide), fun _ => spi o_StrL_charAt rfl (sc_1045 (ckx (nI_pos (by omega)) (nI_lt hi (by omega)) (oV ⟨vp_in_nI hi (by decide), ?_⟩)))⟩)⟩⟩)))
  rw [nx_nI (by omega), h1]
  exact ⟨h2, oI ⟨h2, H⟩⟩
set_option maxRecDepth 100000 in
set_option maxHeartbeats 4000000 in
theorem sl_1046 {g : Gl} {Φ : Out → Mem → Prop} {μ : Mem} (H : Φ (.inl (some (.int (nI 6)))) μ) : WW g i_Str_length 0 Φ 0 0 0 [(0, .ref 1046)] [] μ :=
  have H0 : Spec g i_Str_coder 0 [.ref 1046] μ (onI (fun r μ1 => Φ (.inl (some (.int ((nI 6) >>> (r &&& 31))))) μ1) (fun _ _ => False)) := spi o_Str_coder rfl (v_Str_coder_0 ⟨fun h => absurd h (by decide), fun _ => ⟨rfl, oI H⟩⟩)
  reg1_sound (cs := []) T_Str_length po_Str (rtM_ok H_Str_length) 12 H0
set_option maxRecDepth 100000 in
set_option maxHeartbeats 4000000 in
theorem sc_1046 {g : Gl} {Φ : Out → Mem → Prop} {μ : Mem} {a : Int32} (H : Spec g i_Str_checkIndex 0 [.int a, .int (nI 6)] μ (onV (fun μ1 => vp_in a 6 ∧ (narrow .char (.int (((sby 1046).getD (nx a) 0 &&& 255).toUInt32 % 65536).toInt32) = .int (((sby 1046).getD (nx a) 0 &&& 255).toUInt32 % 65536).toInt32 ∧ Φ (.inl (some (.int (((sby 1046).getD (nx a) 0 &&& 255).toUInt32 % 65536).toInt32))) μ1)) (fun e μ1 => rtM i_StrL_charAt Φ (.inr e) 0 0 μ1))) : WW g i_StrL_charAt 0 Φ 0 0 0 [(0, .ref 3046), (1, .int a)] [] μ :=
  reg1_sound (cs := []) T_StrL_charAt po_StrL (rtM_ok H_StrL_charAt) 14 H
set_option maxRecDepth 100000 in
set_option maxHeartbeats 4000000 in
theorem wk_1046 : WOK 1046 [97, 98, 115, 101, 110, 116] := by
  intro g Φ μ
  refine ⟨fun H => spi o_Str_length rfl (sl_1046 H), fun i hi H => ?_⟩
  have hi : i < 6 := hi
  have hc : ∀ i, i < 6 → (((sby 1046).getD i 0 &&& 255).toUInt32 % 65536).toInt32 = ([97, 98, 115, 101, 110, 116] : List Int32).getD i 0 ∧ narrow .char (.int (([97, 98, 115, 101, 110, 116] : List Int32).getD i 0)) = .int (([97, 98, 115, 101, 110, 116] : List Int32).getD i 0) := by decide +kernel
  obtain ⟨h1, h2⟩ := hc i hi
  refine spi o_Str_charAt rfl (v_Str_charAt_0 (w := 1046) (spi o_Str_isLatin1 rfl (v_Str_isLatin1_0 (w := 1046) ⟨fun h => absurd h (by decide), fun _ => ⟨fun h => absurd rfl h, fun _ => z11 (oI ⟨fun h => absurd h (by decide), fun _ => spi o_StrL_charAt rfl (sc_1046 (ckx (nI_pos (by omega)) (nI_lt hi (by omega)) (oV ⟨vp_in_nI hi (by decide), ?_⟩)))⟩)⟩⟩)))
  rw [nx_nI (by omega), h1]
  exact ⟨h2, oI ⟨h2, H⟩⟩
set_option maxRecDepth 100000 in
set_option maxHeartbeats 4000000 in
theorem sl_1047 {g : Gl} {Φ : Out → Mem → Prop} {μ : Mem} (H : Φ (.inl (some (.int (nI 4)))) μ) : WW g i_Str_length 0 Φ 0 0 0 [(0, .ref 1047)] [] μ :=
  have H0 : Spec g i_Str_coder 0 [.ref 1047] μ (onI (fun r μ1 => Φ (.inl (some (.int ((nI 4) >>> (r &&& 31))))) μ1) (fun _ _ => False)) := spi o_Str_coder rfl (v_Str_coder_0 ⟨fun h => absurd h (by decide), fun _ => ⟨rfl, oI H⟩⟩)
  reg1_sound (cs := []) T_Str_length po_Str (rtM_ok H_Str_length) 12 H0
set_option maxRecDepth 100000 in
set_option maxHeartbeats 4000000 in
theorem sc_1047 {g : Gl} {Φ : Out → Mem → Prop} {μ : Mem} {a : Int32} (H : Spec g i_Str_checkIndex 0 [.int a, .int (nI 4)] μ (onV (fun μ1 => vp_in a 4 ∧ (narrow .char (.int (((sby 1047).getD (nx a) 0 &&& 255).toUInt32 % 65536).toInt32) = .int (((sby 1047).getD (nx a) 0 &&& 255).toUInt32 % 65536).toInt32 ∧ Φ (.inl (some (.int (((sby 1047).getD (nx a) 0 &&& 255).toUInt32 % 65536).toInt32))) μ1)) (fun e μ1 => rtM i_StrL_charAt Φ (.inr e) 0 0 μ1))) : WW g i_StrL_charAt 0 Φ 0 0 0 [(0, .ref 3047), (1, .int a)] [] μ :=
  reg1_sound (cs := []) T_StrL_charAt po_StrL (rtM_ok H_StrL_charAt) 14 H
set_option maxRecDepth 100000 in
set_option maxHeartbeats 4000000 in
theorem wk_1047 : WOK 1047 [108, 111, 117, 100] := by
  intro g Φ μ
  refine ⟨fun H => spi o_Str_length rfl (sl_1047 H), fun i hi H => ?_⟩
  have hi : i < 4 := hi
  have hc : ∀ i, i < 4 → (((sby 1047).getD i 0 &&& 255).toUInt32 % 65536).toInt32 = ([108, 111, 117, 100] : List Int32).getD i 0 ∧ narrow .char (.int (([108, 111, 117, 100] : List Int32).getD i 0)) = .int (([108, 111, 117, 100] : List Int32).getD i 0) := by decide +kernel
  obtain ⟨h1, h2⟩ := hc i hi
  refine spi o_Str_charAt rfl (v_Str_charAt_0 (w := 1047) (spi o_Str_isLatin1 rfl (v_Str_isLatin1_0 (w := 1047) ⟨fun h => absurd h (by decide), fun _ => ⟨fun h => absurd rfl h, fun _ => z11 (oI ⟨fun h => absurd h (by decide), fun _ => spi o_StrL_charAt rfl (sc_1047 (ckx (nI_pos (by omega)) (nI_lt hi (by omega)) (oV ⟨vp_in_nI hi (by decide), ?_⟩)))⟩)⟩⟩)))
  rw [nx_nI (by omega), h1]
  exact ⟨h2, oI ⟨h2, H⟩⟩
set_option maxRecDepth 100000 in
set_option maxHeartbeats 4000000 in
theorem sl_1048 {g : Gl} {Φ : Out → Mem → Prop} {μ : Mem} (H : Φ (.inl (some (.int (nI 2)))) μ) : WW g i_Str_length 0 Φ 0 0 0 [(0, .ref 1048)] [] μ :=
  have H0 : Spec g i_Str_coder 0 [.ref 1048] μ (onI (fun r μ1 => Φ (.inl (some (.int ((nI 2) >>> (r &&& 31))))) μ1) (fun _ _ => False)) := spi o_Str_coder rfl (v_Str_coder_0 ⟨fun h => absurd h (by decide), fun _ => ⟨rfl, oI H⟩⟩)
  reg1_sound (cs := []) T_Str_length po_Str (rtM_ok H_Str_length) 12 H0
set_option maxRecDepth 100000 in
set_option maxHeartbeats 4000000 in
theorem sc_1048 {g : Gl} {Φ : Out → Mem → Prop} {μ : Mem} {a : Int32} (H : Spec g i_Str_checkIndex 0 [.int a, .int (nI 2)] μ (onV (fun μ1 => vp_in a 2 ∧ (narrow .char (.int (((sby 1048).getD (nx a) 0 &&& 255).toUInt32 % 65536).toInt32) = .int (((sby 1048).getD (nx a) 0 &&& 255).toUInt32 % 65536).toInt32 ∧ Φ (.inl (some (.int (((sby 1048).getD (nx a) 0 &&& 255).toUInt32 % 65536).toInt32))) μ1)) (fun e μ1 => rtM i_StrL_charAt Φ (.inr e) 0 0 μ1))) : WW g i_StrL_charAt 0 Φ 0 0 0 [(0, .ref 3048), (1, .int a)] [] μ :=
  reg1_sound (cs := []) T_StrL_charAt po_StrL (rtM_ok H_StrL_charAt) 14 H
set_option maxRecDepth 100000 in
set_option maxHeartbeats 4000000 in
theorem wk_1048 : WOK 1048 [97, 115] := by
  intro g Φ μ
  refine ⟨fun H => spi o_Str_length rfl (sl_1048 H), fun i hi H => ?_⟩
  have hi : i < 2 := hi
  have hc : ∀ i, i < 2 → (((sby 1048).getD i 0 &&& 255).toUInt32 % 65536).toInt32 = ([97, 115] : List Int32).getD i 0 ∧ narrow .char (.int (([97, 115] : List Int32).getD i 0)) = .int (([97, 115] : List Int32).getD i 0) := by decide +kernel
  obtain ⟨h1, h2⟩ := hc i hi
  refine spi o_Str_charAt rfl (v_Str_charAt_0 (w := 1048) (spi o_Str_isLatin1 rfl (v_Str_isLatin1_0 (w := 1048) ⟨fun h => absurd h (by decide), fun _ => ⟨fun h => absurd rfl h, fun _ => z11 (oI ⟨fun h => absurd h (by decide), fun _ => spi o_StrL_charAt rfl (sc_1048 (ckx (nI_pos (by omega)) (nI_lt hi (by omega)) (oV ⟨vp_in_nI hi (by decide), ?_⟩)))⟩)⟩⟩)))
  rw [nx_nI (by omega), h1]
  exact ⟨h2, oI ⟨h2, H⟩⟩
set_option maxRecDepth 100000 in
set_option maxHeartbeats 4000000 in
theorem sl_1049 {g : Gl} {Φ : Out → Mem → Prop} {μ : Mem} (H : Φ (.inl (some (.int (nI 3)))) μ) : WW g i_Str_length 0 Φ 0 0 0 [(0, .ref 1049)] [] μ :=
  have H0 : Spec g i_Str_coder 0 [.ref 1049] μ (onI (fun r μ1 => Φ (.inl (some (.int ((nI 3) >>> (r &&& 31))))) μ1) (fun _ _ => False)) := spi o_Str_coder rfl (v_Str_coder_0 ⟨fun h => absurd h (by decide), fun _ => ⟨rfl, oI H⟩⟩)
  reg1_sound (cs := []) T_Str_length po_Str (rtM_ok H_Str_length) 12 H0
set_option maxRecDepth 100000 in
set_option maxHeartbeats 4000000 in
theorem sc_1049 {g : Gl} {Φ : Out → Mem → Prop} {μ : Mem} {a : Int32} (H : Spec g i_Str_checkIndex 0 [.int a, .int (nI 3)] μ (onV (fun μ1 => vp_in a 3 ∧ (narrow .char (.int (((sby 1049).getD (nx a) 0 &&& 255).toUInt32 % 65536).toInt32) = .int (((sby 1049).getD (nx a) 0 &&& 255).toUInt32 % 65536).toInt32 ∧ Φ (.inl (some (.int (((sby 1049).getD (nx a) 0 &&& 255).toUInt32 % 65536).toInt32))) μ1)) (fun e μ1 => rtM i_StrL_charAt Φ (.inr e) 0 0 μ1))) : WW g i_StrL_charAt 0 Φ 0 0 0 [(0, .ref 3049), (1, .int a)] [] μ :=
  reg1_sound (cs := []) T_StrL_charAt po_StrL (rtM_ok H_StrL_charAt) 14 H
set_option maxRecDepth 100000 in
set_option maxHeartbeats 4000000 in
theorem wk_1049 : WOK 1049 [102, 97, 114] := by
  intro g Φ μ
  refine ⟨fun H => spi o_Str_length rfl (sl_1049 H), fun i hi H => ?_⟩
  have hi : i < 3 := hi
  have hc : ∀ i, i < 3 → (((sby 1049).getD i 0 &&& 255).toUInt32 % 65536).toInt32 = ([102, 97, 114] : List Int32).getD i 0 ∧ narrow .char (.int (([102, 97, 114] : List Int32).getD i 0)) = .int (([102, 97, 114] : List Int32).getD i 0) := by decide +kernel
  obtain ⟨h1, h2⟩ := hc i hi
  refine spi o_Str_charAt rfl (v_Str_charAt_0 (w := 1049) (spi o_Str_isLatin1 rfl (v_Str_isLatin1_0 (w := 1049) ⟨fun h => absurd h (by decide), fun _ => ⟨fun h => absurd rfl h, fun _ => z11 (oI ⟨fun h => absurd h (by decide), fun _ => spi o_StrL_charAt rfl (sc_1049 (ckx (nI_pos (by omega)) (nI_lt hi (by omega)) (oV ⟨vp_in_nI hi (by decide), ?_⟩)))⟩)⟩⟩)))
  rw [nx_nI (by omega), h1]
  exact ⟨h2, oI ⟨h2, H⟩⟩
set_option maxRecDepth 100000 in
set_option maxHeartbeats 4000000 in
theorem sl_1050 {g : Gl} {Φ : Out → Mem → Prop} {μ : Mem} (H : Φ (.inl (some (.int (nI 4)))) μ) : WW g i_Str_length 0 Φ 0 0 0 [(0, .ref 1050)] [] μ :=
  have H0 : Spec g i_Str_coder 0 [.ref 1050] μ (onI (fun r μ1 => Φ (.inl (some (.int ((nI 4) >>> (r &&& 31))))) μ1) (fun _ _ => False)) := spi o_Str_coder rfl (v_Str_coder_0 ⟨fun h => absurd h (by decide), fun _ => ⟨rfl, oI H⟩⟩)
  reg1_sound (cs := []) T_Str_length po_Str (rtM_ok H_Str_length) 12 H0
set_option maxRecDepth 100000 in
set_option maxHeartbeats 4000000 in
theorem sc_1050 {g : Gl} {Φ : Out → Mem → Prop} {μ : Mem} {a : Int32} (H : Spec g i_Str_checkIndex 0 [.int a, .int (nI 4)] μ (onV (fun μ1 => vp_in a 4 ∧ (narrow .char (.int (((sby 1050).getD (nx a) 0 &&& 255).toUInt32 % 65536).toInt32) = .int (((sby 1050).getD (nx a) 0 &&& 255).toUInt32 % 65536).toInt32 ∧ Φ (.inl (some (.int (((sby 1050).getD (nx a) 0 &&& 255).toUInt32 % 65536).toInt32))) μ1)) (fun e μ1 => rtM i_StrL_charAt Φ (.inr e) 0 0 μ1))) : WW g i_StrL_charAt 0 Φ 0 0 0 [(0, .ref 3050), (1, .int a)] [] μ :=
  reg1_sound (cs := []) T_StrL_charAt po_StrL (rtM_ok H_StrL_charAt) 14 H
set_option maxRecDepth 100000 in
set_option maxHeartbeats 4000000 in
theorem wk_1050 : WOK 1050 [110, 101, 97, 114] := by
  intro g Φ μ
  refine ⟨fun H => spi o_Str_length rfl (sl_1050 H), fun i hi H => ?_⟩
  have hi : i < 4 := hi
  have hc : ∀ i, i < 4 → (((sby 1050).getD i 0 &&& 255).toUInt32 % 65536).toInt32 = ([110, 101, 97, 114] : List Int32).getD i 0 ∧ narrow .char (.int (([110, 101, 97, 114] : List Int32).getD i 0)) = .int (([110, 101, 97, 114] : List Int32).getD i 0) := by decide +kernel
  obtain ⟨h1, h2⟩ := hc i hi
  refine spi o_Str_charAt rfl (v_Str_charAt_0 (w := 1050) (spi o_Str_isLatin1 rfl (v_Str_isLatin1_0 (w := 1050) ⟨fun h => absurd h (by decide), fun _ => ⟨fun h => absurd rfl h, fun _ => z11 (oI ⟨fun h => absurd h (by decide), fun _ => spi o_StrL_charAt rfl (sc_1050 (ckx (nI_pos (by omega)) (nI_lt hi (by omega)) (oV ⟨vp_in_nI hi (by decide), ?_⟩)))⟩)⟩⟩)))
  rw [nx_nI (by omega), h1]
  exact ⟨h2, oI ⟨h2, H⟩⟩
set_option maxRecDepth 100000 in
set_option maxHeartbeats 4000000 in
theorem sl_1051 {g : Gl} {Φ : Out → Mem → Prop} {μ : Mem} (H : Φ (.inl (some (.int (nI 2)))) μ) : WW g i_Str_length 0 Φ 0 0 0 [(0, .ref 1051)] [] μ :=
  have H0 : Spec g i_Str_coder 0 [.ref 1051] μ (onI (fun r μ1 => Φ (.inl (some (.int ((nI 2) >>> (r &&& 31))))) μ1) (fun _ _ => False)) := spi o_Str_coder rfl (v_Str_coder_0 ⟨fun h => absurd h (by decide), fun _ => ⟨rfl, oI H⟩⟩)
  reg1_sound (cs := []) T_Str_length po_Str (rtM_ok H_Str_length) 12 H0
set_option maxRecDepth 100000 in
set_option maxHeartbeats 4000000 in
theorem sc_1051 {g : Gl} {Φ : Out → Mem → Prop} {μ : Mem} {a : Int32} (H : Spec g i_Str_checkIndex 0 [.int a, .int (nI 2)] μ (onV (fun μ1 => vp_in a 2 ∧ (narrow .char (.int (((sby 1051).getD (nx a) 0 &&& 255).toUInt32 % 65536).toInt32) = .int (((sby 1051).getD (nx a) 0 &&& 255).toUInt32 % 65536).toInt32 ∧ Φ (.inl (some (.int (((sby 1051).getD (nx a) 0 &&& 255).toUInt32 % 65536).toInt32))) μ1)) (fun e μ1 => rtM i_StrL_charAt Φ (.inr e) 0 0 μ1))) : WW g i_StrL_charAt 0 Φ 0 0 0 [(0, .ref 3051), (1, .int a)] [] μ :=
  reg1_sound (cs := []) T_StrL_charAt po_StrL (rtM_ok H_StrL_charAt) 14 H
set_option maxRecDepth 100000 in
set_option maxHeartbeats 4000000 in
theorem wk_1051 : WOK 1051 [105, 102] := by
  intro g Φ μ
  refine ⟨fun H => spi o_Str_length rfl (sl_1051 H), fun i hi H => ?_⟩
  have hi : i < 2 := hi
  have hc : ∀ i, i < 2 → (((sby 1051).getD i 0 &&& 255).toUInt32 % 65536).toInt32 = ([105, 102] : List Int32).getD i 0 ∧ narrow .char (.int (([105, 102] : List Int32).getD i 0)) = .int (([105, 102] : List Int32).getD i 0) := by decide +kernel
  obtain ⟨h1, h2⟩ := hc i hi
  refine spi o_Str_charAt rfl (v_Str_charAt_0 (w := 1051) (spi o_Str_isLatin1 rfl (v_Str_isLatin1_0 (w := 1051) ⟨fun h => absurd h (by decide), fun _ => ⟨fun h => absurd rfl h, fun _ => z11 (oI ⟨fun h => absurd h (by decide), fun _ => spi o_StrL_charAt rfl (sc_1051 (ckx (nI_pos (by omega)) (nI_lt hi (by omega)) (oV ⟨vp_in_nI hi (by decide), ?_⟩)))⟩)⟩⟩)))
  rw [nx_nI (by omega), h1]
  exact ⟨h2, oI ⟨h2, H⟩⟩
set_option maxRecDepth 100000 in
set_option maxHeartbeats 4000000 in
theorem sl_1052 {g : Gl} {Φ : Out → Mem → Prop} {μ : Mem} (H : Φ (.inl (some (.int (nI 3)))) μ) : WW g i_Str_length 0 Φ 0 0 0 [(0, .ref 1052)] [] μ :=
  have H0 : Spec g i_Str_coder 0 [.ref 1052] μ (onI (fun r μ1 => Φ (.inl (some (.int ((nI 3) >>> (r &&& 31))))) μ1) (fun _ _ => False)) := spi o_Str_coder rfl (v_Str_coder_0 ⟨fun h => absurd h (by decide), fun _ => ⟨rfl, oI H⟩⟩)
  reg1_sound (cs := []) T_Str_length po_Str (rtM_ok H_Str_length) 12 H0
set_option maxRecDepth 100000 in
set_option maxHeartbeats 4000000 in
theorem sc_1052 {g : Gl} {Φ : Out → Mem → Prop} {μ : Mem} {a : Int32} (H : Spec g i_Str_checkIndex 0 [.int a, .int (nI 3)] μ (onV (fun μ1 => vp_in a 3 ∧ (narrow .char (.int (((sby 1052).getD (nx a) 0 &&& 255).toUInt32 % 65536).toInt32) = .int (((sby 1052).getD (nx a) 0 &&& 255).toUInt32 % 65536).toInt32 ∧ Φ (.inl (some (.int (((sby 1052).getD (nx a) 0 &&& 255).toUInt32 % 65536).toInt32))) μ1)) (fun e μ1 => rtM i_StrL_charAt Φ (.inr e) 0 0 μ1))) : WW g i_StrL_charAt 0 Φ 0 0 0 [(0, .ref 3052), (1, .int a)] [] μ :=
  reg1_sound (cs := []) T_StrL_charAt po_StrL (rtM_ok H_StrL_charAt) 14 H
set_option maxRecDepth 100000 in
set_option maxHeartbeats 4000000 in
theorem wk_1052 : WOK 1052 [110, 111, 116] := by
  intro g Φ μ
  refine ⟨fun H => spi o_Str_length rfl (sl_1052 H), fun i hi H => ?_⟩
  have hi : i < 3 := hi
  have hc : ∀ i, i < 3 → (((sby 1052).getD i 0 &&& 255).toUInt32 % 65536).toInt32 = ([110, 111, 116] : List Int32).getD i 0 ∧ narrow .char (.int (([110, 111, 116] : List Int32).getD i 0)) = .int (([110, 111, 116] : List Int32).getD i 0) := by decide +kernel
  obtain ⟨h1, h2⟩ := hc i hi
  refine spi o_Str_charAt rfl (v_Str_charAt_0 (w := 1052) (spi o_Str_isLatin1 rfl (v_Str_isLatin1_0 (w := 1052) ⟨fun h => absurd h (by decide), fun _ => ⟨fun h => absurd rfl h, fun _ => z11 (oI ⟨fun h => absurd h (by decide), fun _ => spi o_StrL_charAt rfl (sc_1052 (ckx (nI_pos (by omega)) (nI_lt hi (by omega)) (oV ⟨vp_in_nI hi (by decide), ?_⟩)))⟩)⟩⟩)))
  rw [nx_nI (by omega), h1]
  exact ⟨h2, oI ⟨h2, H⟩⟩
set_option maxRecDepth 100000 in
set_option maxHeartbeats 4000000 in
theorem sl_1053 {g : Gl} {Φ : Out → Mem → Prop} {μ : Mem} (H : Φ (.inl (some (.int (nI 5)))) μ) : WW g i_Str_length 0 Φ 0 0 0 [(0, .ref 1053)] [] μ :=
  have H0 : Spec g i_Str_coder 0 [.ref 1053] μ (onI (fun r μ1 => Φ (.inl (some (.int ((nI 5) >>> (r &&& 31))))) μ1) (fun _ _ => False)) := spi o_Str_coder rfl (v_Str_coder_0 ⟨fun h => absurd h (by decide), fun _ => ⟨rfl, oI H⟩⟩)
  reg1_sound (cs := []) T_Str_length po_Str (rtM_ok H_Str_length) 12 H0
set_option maxRecDepth 100000 in
set_option maxHeartbeats 4000000 in
theorem sc_1053 {g : Gl} {Φ : Out → Mem → Prop} {μ : Mem} {a : Int32} (H : Spec g i_Str_checkIndex 0 [.int a, .int (nI 5)] μ (onV (fun μ1 => vp_in a 5 ∧ (narrow .char (.int (((sby 1053).getD (nx a) 0 &&& 255).toUInt32 % 65536).toInt32) = .int (((sby 1053).getD (nx a) 0 &&& 255).toUInt32 % 65536).toInt32 ∧ Φ (.inl (some (.int (((sby 1053).getD (nx a) 0 &&& 255).toUInt32 % 65536).toInt32))) μ1)) (fun e μ1 => rtM i_StrL_charAt Φ (.inr e) 0 0 μ1))) : WW g i_StrL_charAt 0 Φ 0 0 0 [(0, .ref 3053), (1, .int a)] [] μ :=
  reg1_sound (cs := []) T_StrL_charAt po_StrL (rtM_ok H_StrL_charAt) 14 H
set_option maxRecDepth 100000 in
set_option maxHeartbeats 4000000 in
theorem wk_1053 : WOK 1053 [107, 110, 111, 119, 110] := by
  intro g Φ μ
  refine ⟨fun H => spi o_Str_length rfl (sl_1053 H), fun i hi H => ?_⟩
  have hi : i < 5 := hi
  have hc : ∀ i, i < 5 → (((sby 1053).getD i 0 &&& 255).toUInt32 % 65536).toInt32 = ([107, 110, 111, 119, 110] : List Int32).getD i 0 ∧ narrow .char (.int (([107, 110, 111, 119, 110] : List Int32).getD i 0)) = .int (([107, 110, 111, 119, 110] : List Int32).getD i 0) := by decide +kernel
  obtain ⟨h1, h2⟩ := hc i hi
  refine spi o_Str_charAt rfl (v_Str_charAt_0 (w := 1053) (spi o_Str_isLatin1 rfl (v_Str_isLatin1_0 (w := 1053) ⟨fun h => absurd h (by decide), fun _ => ⟨fun h => absurd rfl h, fun _ => z11 (oI ⟨fun h => absurd h (by decide), fun _ => spi o_StrL_charAt rfl (sc_1053 (ckx (nI_pos (by omega)) (nI_lt hi (by omega)) (oV ⟨vp_in_nI hi (by decide), ?_⟩)))⟩)⟩⟩)))
  rw [nx_nI (by omega), h1]
  exact ⟨h2, oI ⟨h2, H⟩⟩
set_option maxRecDepth 100000 in
set_option maxHeartbeats 4000000 in
theorem sl_1054 {g : Gl} {Φ : Out → Mem → Prop} {μ : Mem} (H : Φ (.inl (some (.int (nI 7)))) μ) : WW g i_Str_length 0 Φ 0 0 0 [(0, .ref 1054)] [] μ :=
  have H0 : Spec g i_Str_coder 0 [.ref 1054] μ (onI (fun r μ1 => Φ (.inl (some (.int ((nI 7) >>> (r &&& 31))))) μ1) (fun _ _ => False)) := spi o_Str_coder rfl (v_Str_coder_0 ⟨fun h => absurd h (by decide), fun _ => ⟨rfl, oI H⟩⟩)
  reg1_sound (cs := []) T_Str_length po_Str (rtM_ok H_Str_length) 12 H0
set_option maxRecDepth 100000 in
set_option maxHeartbeats 4000000 in
theorem sc_1054 {g : Gl} {Φ : Out → Mem → Prop} {μ : Mem} {a : Int32} (H : Spec g i_Str_checkIndex 0 [.int a, .int (nI 7)] μ (onV (fun μ1 => vp_in a 7 ∧ (narrow .char (.int (((sby 1054).getD (nx a) 0 &&& 255).toUInt32 % 65536).toInt32) = .int (((sby 1054).getD (nx a) 0 &&& 255).toUInt32 % 65536).toInt32 ∧ Φ (.inl (some (.int (((sby 1054).getD (nx a) 0 &&& 255).toUInt32 % 65536).toInt32))) μ1)) (fun e μ1 => rtM i_StrL_charAt Φ (.inr e) 0 0 μ1))) : WW g i_StrL_charAt 0 Φ 0 0 0 [(0, .ref 3054), (1, .int a)] [] μ :=
  reg1_sound (cs := []) T_StrL_charAt po_StrL (rtM_ok H_StrL_charAt) 14 H
set_option maxRecDepth 100000 in
set_option maxHeartbeats 4000000 in
theorem wk_1054 : WOK 1054 [119, 111, 114, 100, 105, 110, 103] := by
  intro g Φ μ
  refine ⟨fun H => spi o_Str_length rfl (sl_1054 H), fun i hi H => ?_⟩
  have hi : i < 7 := hi
  have hc : ∀ i, i < 7 → (((sby 1054).getD i 0 &&& 255).toUInt32 % 65536).toInt32 = ([119, 111, 114, 100, 105, 110, 103] : List Int32).getD i 0 ∧ narrow .char (.int (([119, 111, 114, 100, 105, 110, 103] : List Int32).getD i 0)) = .int (([119, 111, 114, 100, 105, 110, 103] : List Int32).getD i 0) := by decide +kernel
  obtain ⟨h1, h2⟩ := hc i hi
  refine spi o_Str_charAt rfl (v_Str_charAt_0 (w := 1054) (spi o_Str_isLatin1 rfl (v_Str_isLatin1_0 (w := 1054) ⟨fun h => absurd h (by decide), fun _ => ⟨fun h => absurd rfl h, fun _ => z11 (oI ⟨fun h => absurd h (by decide), fun _ => spi o_StrL_charAt rfl (sc_1054 (ckx (nI_pos (by omega)) (nI_lt hi (by omega)) (oV ⟨vp_in_nI hi (by decide), ?_⟩)))⟩)⟩⟩)))
  rw [nx_nI (by omega), h1]
  exact ⟨h2, oI ⟨h2, H⟩⟩
set_option maxRecDepth 100000 in
set_option maxHeartbeats 4000000 in
theorem sl_1055 {g : Gl} {Φ : Out → Mem → Prop} {μ : Mem} (H : Φ (.inl (some (.int (nI 3)))) μ) : WW g i_Str_length 0 Φ 0 0 0 [(0, .ref 1055)] [] μ :=
  have H0 : Spec g i_Str_coder 0 [.ref 1055] μ (onI (fun r μ1 => Φ (.inl (some (.int ((nI 3) >>> (r &&& 31))))) μ1) (fun _ _ => False)) := spi o_Str_coder rfl (v_Str_coder_0 ⟨fun h => absurd h (by decide), fun _ => ⟨rfl, oI H⟩⟩)
  reg1_sound (cs := []) T_Str_length po_Str (rtM_ok H_Str_length) 12 H0
set_option maxRecDepth 100000 in
set_option maxHeartbeats 4000000 in
theorem sc_1055 {g : Gl} {Φ : Out → Mem → Prop} {μ : Mem} {a : Int32} (H : Spec g i_Str_checkIndex 0 [.int a, .int (nI 3)] μ (onV (fun μ1 => vp_in a 3 ∧ (narrow .char (.int (((sby 1055).getD (nx a) 0 &&& 255).toUInt32 % 65536).toInt32) = .int (((sby 1055).getD (nx a) 0 &&& 255).toUInt32 % 65536).toInt32 ∧ Φ (.inl (some (.int (((sby 1055).getD (nx a) 0 &&& 255).toUInt32 % 65536).toInt32))) μ1)) (fun e μ1 => rtM i_StrL_charAt Φ (.inr e) 0 0 μ1))) : WW g i_StrL_charAt 0 Φ 0 0 0 [(0, .ref 3055), (1, .int a)] [] μ :=
  reg1_sound (cs := []) T_StrL_charAt po_StrL (rtM_ok H_StrL_charAt) 14 H
set_option maxRecDepth 100000 in
set_option maxHeartbeats 4000000 in
theorem wk_1055 : WOK 1055 [119, 104, 111] := by
  intro g Φ μ
  refine ⟨fun H => spi o_Str_length rfl (sl_1055 H), fun i hi H => ?_⟩
  have hi : i < 3 := hi
  have hc : ∀ i, i < 3 → (((sby 1055).getD i 0 &&& 255).toUInt32 % 65536).toInt32 = ([119, 104, 111] : List Int32).getD i 0 ∧ narrow .char (.int (([119, 104, 111] : List Int32).getD i 0)) = .int (([119, 104, 111] : List Int32).getD i 0) := by decide +kernel
  obtain ⟨h1, h2⟩ := hc i hi
  refine spi o_Str_charAt rfl (v_Str_charAt_0 (w := 1055) (spi o_Str_isLatin1 rfl (v_Str_isLatin1_0 (w := 1055) ⟨fun h => absurd h (by decide), fun _ => ⟨fun h => absurd rfl h, fun _ => z11 (oI ⟨fun h => absurd h (by decide), fun _ => spi o_StrL_charAt rfl (sc_1055 (ckx (nI_pos (by omega)) (nI_lt hi (by omega)) (oV ⟨vp_in_nI hi (by decide), ?_⟩)))⟩)⟩⟩)))
  rw [nx_nI (by omega), h1]
  exact ⟨h2, oI ⟨h2, H⟩⟩
set_option maxRecDepth 100000 in
set_option maxHeartbeats 4000000 in
theorem sl_1056 {g : Gl} {Φ : Out → Mem → Prop} {μ : Mem} (H : Φ (.inl (some (.int (nI 4)))) μ) : WW g i_Str_length 0 Φ 0 0 0 [(0, .ref 1056)] [] μ :=
  have H0 : Spec g i_Str_coder 0 [.ref 1056] μ (onI (fun r μ1 => Φ (.inl (some (.int ((nI 4) >>> (r &&& 31))))) μ1) (fun _ _ => False)) := spi o_Str_coder rfl (v_Str_coder_0 ⟨fun h => absurd h (by decide), fun _ => ⟨rfl, oI H⟩⟩)
  reg1_sound (cs := []) T_Str_length po_Str (rtM_ok H_Str_length) 12 H0
set_option maxRecDepth 100000 in
set_option maxHeartbeats 4000000 in
theorem sc_1056 {g : Gl} {Φ : Out → Mem → Prop} {μ : Mem} {a : Int32} (H : Spec g i_Str_checkIndex 0 [.int a, .int (nI 4)] μ (onV (fun μ1 => vp_in a 4 ∧ (narrow .char (.int (((sby 1056).getD (nx a) 0 &&& 255).toUInt32 % 65536).toInt32) = .int (((sby 1056).getD (nx a) 0 &&& 255).toUInt32 % 65536).toInt32 ∧ Φ (.inl (some (.int (((sby 1056).getD (nx a) 0 &&& 255).toUInt32 % 65536).toInt32))) μ1)) (fun e μ1 => rtM i_StrL_charAt Φ (.inr e) 0 0 μ1))) : WW g i_StrL_charAt 0 Φ 0 0 0 [(0, .ref 3056), (1, .int a)] [] μ :=
  reg1_sound (cs := []) T_StrL_charAt po_StrL (rtM_ok H_StrL_charAt) 14 H
set_option maxRecDepth 100000 in
set_option maxHeartbeats 4000000 in
theorem wk_1056 : WOK 1056 [119, 104, 111, 109] := by
  intro g Φ μ
  refine ⟨fun H => spi o_Str_length rfl (sl_1056 H), fun i hi H => ?_⟩
  have hi : i < 4 := hi
  have hc : ∀ i, i < 4 → (((sby 1056).getD i 0 &&& 255).toUInt32 % 65536).toInt32 = ([119, 104, 111, 109] : List Int32).getD i 0 ∧ narrow .char (.int (([119, 104, 111, 109] : List Int32).getD i 0)) = .int (([119, 104, 111, 109] : List Int32).getD i 0) := by decide +kernel
  obtain ⟨h1, h2⟩ := hc i hi
  refine spi o_Str_charAt rfl (v_Str_charAt_0 (w := 1056) (spi o_Str_isLatin1 rfl (v_Str_isLatin1_0 (w := 1056) ⟨fun h => absurd h (by decide), fun _ => ⟨fun h => absurd rfl h, fun _ => z11 (oI ⟨fun h => absurd h (by decide), fun _ => spi o_StrL_charAt rfl (sc_1056 (ckx (nI_pos (by omega)) (nI_lt hi (by omega)) (oV ⟨vp_in_nI hi (by decide), ?_⟩)))⟩)⟩⟩)))
  rw [nx_nI (by omega), h1]
  exact ⟨h2, oI ⟨h2, H⟩⟩
set_option maxRecDepth 100000 in
set_option maxHeartbeats 4000000 in
theorem sl_1057 {g : Gl} {Φ : Out → Mem → Prop} {μ : Mem} (H : Φ (.inl (some (.int (nI 5)))) μ) : WW g i_Str_length 0 Φ 0 0 0 [(0, .ref 1057)] [] μ :=
  have H0 : Spec g i_Str_coder 0 [.ref 1057] μ (onI (fun r μ1 => Φ (.inl (some (.int ((nI 5) >>> (r &&& 31))))) μ1) (fun _ _ => False)) := spi o_Str_coder rfl (v_Str_coder_0 ⟨fun h => absurd h (by decide), fun _ => ⟨rfl, oI H⟩⟩)
  reg1_sound (cs := []) T_Str_length po_Str (rtM_ok H_Str_length) 12 H0
set_option maxRecDepth 100000 in
set_option maxHeartbeats 4000000 in
theorem sc_1057 {g : Gl} {Φ : Out → Mem → Prop} {μ : Mem} {a : Int32} (H : Spec g i_Str_checkIndex 0 [.int a, .int (nI 5)] μ (onV (fun μ1 => vp_in a 5 ∧ (narrow .char (.int (((sby 1057).getD (nx a) 0 &&& 255).toUInt32 % 65536).toInt32) = .int (((sby 1057).getD (nx a) 0 &&& 255).toUInt32 % 65536).toInt32 ∧ Φ (.inl (some (.int (((sby 1057).getD (nx a) 0 &&& 255).toUInt32 % 65536).toInt32))) μ1)) (fun e μ1 => rtM i_StrL_charAt Φ (.inr e) 0 0 μ1))) : WW g i_StrL_charAt 0 Φ 0 0 0 [(0, .ref 3057), (1, .int a)] [] μ :=
  reg1_sound (cs := []) T_StrL_charAt po_StrL (rtM_ok H_StrL_charAt) 14 H
set_option maxRecDepth 100000 in
set_option maxHeartbeats 4000000 in
theorem wk_1057 : WOK 1057 [97, 112, 97, 114, 116] := by
  intro g Φ μ
  refine ⟨fun H => spi o_Str_length rfl (sl_1057 H), fun i hi H => ?_⟩
  have hi : i < 5 := hi
  have hc : ∀ i, i < 5 → (((sby 1057).getD i 0 &&& 255).toUInt32 % 65536).toInt32 = ([97, 112, 97, 114, 116] : List Int32).getD i 0 ∧ narrow .char (.int (([97, 112, 97, 114, 116] : List Int32).getD i 0)) = .int (([97, 112, 97, 114, 116] : List Int32).getD i 0) := by decide +kernel
  obtain ⟨h1, h2⟩ := hc i hi
  refine spi o_Str_charAt rfl (v_Str_charAt_0 (w := 1057) (spi o_Str_isLatin1 rfl (v_Str_isLatin1_0 (w := 1057) ⟨fun h => absurd h (by decide), fun _ => ⟨fun h => absurd rfl h, fun _ => z11 (oI ⟨fun h => absurd h (by decide), fun _ => spi o_StrL_charAt rfl (sc_1057 (ckx (nI_pos (by omega)) (nI_lt hi (by omega)) (oV ⟨vp_in_nI hi (by decide), ?_⟩)))⟩)⟩⟩)))
  rw [nx_nI (by omega), h1]
  exact ⟨h2, oI ⟨h2, H⟩⟩
set_option maxRecDepth 100000 in
set_option maxHeartbeats 4000000 in
theorem sl_1058 {g : Gl} {Φ : Out → Mem → Prop} {μ : Mem} (H : Φ (.inl (some (.int (nI 3)))) μ) : WW g i_Str_length 0 Φ 0 0 0 [(0, .ref 1058)] [] μ :=
  have H0 : Spec g i_Str_coder 0 [.ref 1058] μ (onI (fun r μ1 => Φ (.inl (some (.int ((nI 3) >>> (r &&& 31))))) μ1) (fun _ _ => False)) := spi o_Str_coder rfl (v_Str_coder_0 ⟨fun h => absurd h (by decide), fun _ => ⟨rfl, oI H⟩⟩)
  reg1_sound (cs := []) T_Str_length po_Str (rtM_ok H_Str_length) 12 H0
set_option maxRecDepth 100000 in
set_option maxHeartbeats 4000000 in
theorem sc_1058 {g : Gl} {Φ : Out → Mem → Prop} {μ : Mem} {a : Int32} (H : Spec g i_Str_checkIndex 0 [.int a, .int (nI 3)] μ (onV (fun μ1 => vp_in a 3 ∧ (narrow .char (.int (((sby 1058).getD (nx a) 0 &&& 255).toUInt32 % 65536).toInt32) = .int (((sby 1058).getD (nx a) 0 &&& 255).toUInt32 % 65536).toInt32 ∧ Φ (.inl (some (.int (((sby 1058).getD (nx a) 0 &&& 255).toUInt32 % 65536).toInt32))) μ1)) (fun e μ1 => rtM i_StrL_charAt Φ (.inr e) 0 0 μ1))) : WW g i_StrL_charAt 0 Φ 0 0 0 [(0, .ref 3058), (1, .int a)] [] μ :=
  reg1_sound (cs := []) T_StrL_charAt po_StrL (rtM_ok H_StrL_charAt) 14 H
set_option maxRecDepth 100000 in
set_option maxHeartbeats 4000000 in
theorem wk_1058 : WOK 1058 [100, 97, 121] := by
  intro g Φ μ
  refine ⟨fun H => spi o_Str_length rfl (sl_1058 H), fun i hi H => ?_⟩
  have hi : i < 3 := hi
  have hc : ∀ i, i < 3 → (((sby 1058).getD i 0 &&& 255).toUInt32 % 65536).toInt32 = ([100, 97, 121] : List Int32).getD i 0 ∧ narrow .char (.int (([100, 97, 121] : List Int32).getD i 0)) = .int (([100, 97, 121] : List Int32).getD i 0) := by decide +kernel
  obtain ⟨h1, h2⟩ := hc i hi
  refine spi o_Str_charAt rfl (v_Str_charAt_0 (w := 1058) (spi o_Str_isLatin1 rfl (v_Str_isLatin1_0 (w := 1058) ⟨fun h => absurd h (by decide), fun _ => ⟨fun h => absurd rfl h, fun _ => z11 (oI ⟨fun h => absurd h (by decide), fun _ => spi o_StrL_charAt rfl (sc_1058 (ckx (nI_pos (by omega)) (nI_lt hi (by omega)) (oV ⟨vp_in_nI hi (by decide), ?_⟩)))⟩)⟩⟩)))
  rw [nx_nI (by omega), h1]
  exact ⟨h2, oI ⟨h2, H⟩⟩
set_option maxRecDepth 100000 in
set_option maxHeartbeats 4000000 in
theorem sl_1059 {g : Gl} {Φ : Out → Mem → Prop} {μ : Mem} (H : Φ (.inl (some (.int (nI 3)))) μ) : WW g i_Str_length 0 Φ 0 0 0 [(0, .ref 1059)] [] μ :=
  have H0 : Spec g i_Str_coder 0 [.ref 1059] μ (onI (fun r μ1 => Φ (.inl (some (.int ((nI 3) >>> (r &&& 31))))) μ1) (fun _ _ => False)) := spi o_Str_coder rfl (v_Str_coder_0 ⟨fun h => absurd h (by decide), fun _ => ⟨rfl, oI H⟩⟩)
  reg1_sound (cs := []) T_Str_length po_Str (rtM_ok H_Str_length) 12 H0
set_option maxRecDepth 100000 in
set_option maxHeartbeats 4000000 in
theorem sc_1059 {g : Gl} {Φ : Out → Mem → Prop} {μ : Mem} {a : Int32} (H : Spec g i_Str_checkIndex 0 [.int a, .int (nI 3)] μ (onV (fun μ1 => vp_in a 3 ∧ (narrow .char (.int (((sby 1059).getD (nx a) 0 &&& 255).toUInt32 % 65536).toInt32) = .int (((sby 1059).getD (nx a) 0 &&& 255).toUInt32 % 65536).toInt32 ∧ Φ (.inl (some (.int (((sby 1059).getD (nx a) 0 &&& 255).toUInt32 % 65536).toInt32))) μ1)) (fun e μ1 => rtM i_StrL_charAt Φ (.inr e) 0 0 μ1))) : WW g i_StrL_charAt 0 Φ 0 0 0 [(0, .ref 3059), (1, .int a)] [] μ :=
  reg1_sound (cs := []) T_StrL_charAt po_StrL (rtM_ok H_StrL_charAt) 14 H
set_option maxRecDepth 100000 in
set_option maxHeartbeats 4000000 in
theorem wk_1059 : WOK 1059 [97, 110, 100] := by
  intro g Φ μ
  refine ⟨fun H => spi o_Str_length rfl (sl_1059 H), fun i hi H => ?_⟩
  have hi : i < 3 := hi
  have hc : ∀ i, i < 3 → (((sby 1059).getD i 0 &&& 255).toUInt32 % 65536).toInt32 = ([97, 110, 100] : List Int32).getD i 0 ∧ narrow .char (.int (([97, 110, 100] : List Int32).getD i 0)) = .int (([97, 110, 100] : List Int32).getD i 0) := by decide +kernel
  obtain ⟨h1, h2⟩ := hc i hi
  refine spi o_Str_charAt rfl (v_Str_charAt_0 (w := 1059) (spi o_Str_isLatin1 rfl (v_Str_isLatin1_0 (w := 1059) ⟨fun h => absurd h (by decide), fun _ => ⟨fun h => absurd rfl h, fun _ => z11 (oI ⟨fun h => absurd h (by decide), fun _ => spi o_StrL_charAt rfl (sc_1059 (ckx (nI_pos (by omega)) (nI_lt hi (by omega)) (oV ⟨vp_in_nI hi (by decide), ?_⟩)))⟩)⟩⟩)))
  rw [nx_nI (by omega), h1]
  exact ⟨h2, oI ⟨h2, H⟩⟩
set_option maxRecDepth 100000 in
set_option maxHeartbeats 4000000 in
theorem sl_1060 {g : Gl} {Φ : Out → Mem → Prop} {μ : Mem} (H : Φ (.inl (some (.int (nI 2)))) μ) : WW g i_Str_length 0 Φ 0 0 0 [(0, .ref 1060)] [] μ :=
  have H0 : Spec g i_Str_coder 0 [.ref 1060] μ (onI (fun r μ1 => Φ (.inl (some (.int ((nI 2) >>> (r &&& 31))))) μ1) (fun _ _ => False)) := spi o_Str_coder rfl (v_Str_coder_0 ⟨fun h => absurd h (by decide), fun _ => ⟨rfl, oI H⟩⟩)
  reg1_sound (cs := []) T_Str_length po_Str (rtM_ok H_Str_length) 12 H0
set_option maxRecDepth 100000 in
set_option maxHeartbeats 4000000 in
theorem sc_1060 {g : Gl} {Φ : Out → Mem → Prop} {μ : Mem} {a : Int32} (H : Spec g i_Str_checkIndex 0 [.int a, .int (nI 2)] μ (onV (fun μ1 => vp_in a 2 ∧ (narrow .char (.int (((sby 1060).getD (nx a) 0 &&& 255).toUInt32 % 65536).toInt32) = .int (((sby 1060).getD (nx a) 0 &&& 255).toUInt32 % 65536).toInt32 ∧ Φ (.inl (some (.int (((sby 1060).getD (nx a) 0 &&& 255).toUInt32 % 65536).toInt32))) μ1)) (fun e μ1 => rtM i_StrL_charAt Φ (.inr e) 0 0 μ1))) : WW g i_StrL_charAt 0 Φ 0 0 0 [(0, .ref 3060), (1, .int a)] [] μ :=
  reg1_sound (cs := []) T_StrL_charAt po_StrL (rtM_ok H_StrL_charAt) 14 H
set_option maxRecDepth 100000 in
set_option maxHeartbeats 4000000 in
theorem wk_1060 : WOK 1060 [111, 114] := by
  intro g Φ μ
  refine ⟨fun H => spi o_Str_length rfl (sl_1060 H), fun i hi H => ?_⟩
  have hi : i < 2 := hi
  have hc : ∀ i, i < 2 → (((sby 1060).getD i 0 &&& 255).toUInt32 % 65536).toInt32 = ([111, 114] : List Int32).getD i 0 ∧ narrow .char (.int (([111, 114] : List Int32).getD i 0)) = .int (([111, 114] : List Int32).getD i 0) := by decide +kernel
  obtain ⟨h1, h2⟩ := hc i hi
  refine spi o_Str_charAt rfl (v_Str_charAt_0 (w := 1060) (spi o_Str_isLatin1 rfl (v_Str_isLatin1_0 (w := 1060) ⟨fun h => absurd h (by decide), fun _ => ⟨fun h => absurd rfl h, fun _ => z11 (oI ⟨fun h => absurd h (by decide), fun _ => spi o_StrL_charAt rfl (sc_1060 (ckx (nI_pos (by omega)) (nI_lt hi (by omega)) (oV ⟨vp_in_nI hi (by decide), ?_⟩)))⟩)⟩⟩)))
  rw [nx_nI (by omega), h1]
  exact ⟨h2, oI ⟨h2, H⟩⟩
