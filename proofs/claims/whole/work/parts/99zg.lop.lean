/-! the law's loop -/
theorem nI_6 {N t : Nat} (hN : N ≤ 3072) (ht : 6 * t ≤ 3078) : ((nI N) - (6 : Int32) < nI (6 * t)) ↔ N < 6 * t + 6 := by
  rw [Int32.lt_iff_toInt_lt, Int32.toInt_sub, nI_toInt (by omega), nI_toInt (by omega)]
  have h6 : (6 : Int32).toInt = 6 := by decide
  rw [h6]
  have hb : Int.bmod ((N : Int) - 6) (2 ^ 32) = (N : Int) - 6 := by
    unfold Int.bmod
    have e : ((2 ^ 32 : Nat) : Int) = 4294967296 := by decide
    simp only [e]
    split <;> omega
  rw [hb]
  omega
theorem law_loop {g : Gl} (hN : gN g ≤ 3072) : ∀ (d t nc ns : Nat) (μ : Mem), J9 μ → gN g < 6 * t + 6 * d + 6 → 6 * t ≤ gN g → nc ≤ 155 + 5 * t → ns ≤ 90768 + 30 * t → WL g nc ns 23 [(0, .ref 2000), (1, .ref 0), (2, .ref 140), (3, .ref 154), (4, .int (nI (6 * t)))] [] μ := by
  intro d
  induction d with
  | zero =>
    intro t nc ns μ hJ hd ht h1 h2
    refine v_LAW_h ⟨fun _ => ⟨Or.inr rfl, rfl, by omega, by omega⟩, fun h => absurd ((nI_6 hN (by omega)).mpr (by omega)) h⟩
  | succ d ih =>
    intro t nc ns μ hJ hd ht h1 h2
    by_cases hx : gN g < 6 * t + 6
    · exact v_LAW_h ⟨fun _ => ⟨Or.inr rfl, rfl, by omega, by omega⟩, fun h => absurd ((nI_6 hN (by omega)).mpr hx) h⟩
    · have hs : ScI g (nI (6 * t)) := ⟨t, rfl, by omega, hN⟩
      have e6 : nI (6 * t) + (6 : Int32) = nI (6 * (t + 1)) := by
        rw [show 6 * (t + 1) = 6 * t + 6 by omega]
        exact (Int32.ofNat_add (6 * t) 6).symm
      have hK : ∀ K μ', K ≤ 5 → J9 μ' → WL g (nc + K) (ns + 6 * K) 23 [(0, .ref 2000), (1, .ref 0), (2, .ref 140), (3, .ref 154), (4, .int (nI (6 * t) + (6 : Int32)))] [] μ' := by
        intro K μ' hk hj
        rw [e6]
        exact ih (t + 1) _ _ μ' hj (by omega) (by omega) (by omega) (by omega)
      have b1 : nc ≤ 50000 := by omega
      have b2 : ns ≤ 500000 := by omega
      refine v_LAW_h ⟨fun h => absurd ((nI_6 hN (by omega)).mp h) hx, fun _ => ⟨?_, ?_⟩⟩
      · have := sc_in hs (k := 0) (by omega)
        rw [show nI (6 * t) + nI 0 = nI (6 * t) from (Int32.ofNat_add _ _).symm] at this
        exact this
      · exact ⟨fun _ => J_0 hs hJ b1 b2 hK, fun _ => ⟨fun _ => J_1 hs hJ b1 b2 hK, fun _ => ⟨fun _ => J_2 hs hJ b1 b2 hK, fun _ => ⟨fun _ => J_3 hs hJ b1 b2 hK, fun _ => ⟨fun _ => J_4 hs hJ b1 b2 hK, fun _ => ⟨fun _ => J_5 hs hJ b1 b2 hK, fun _ => ⟨fun _ => J_6 hs hJ b1 b2 hK, fun _ => ⟨fun _ => J_7 hs hJ b1 b2 hK, fun _ => ⟨fun _ => J_8 hs hJ b1 b2 hK, fun _ => ⟨fun _ => J_9 hs hJ b1 b2 hK, fun _ => ⟨fun _ => J_10 hs hJ b1 b2 hK, fun _ => ⟨fun _ => J_11 hs hJ b1 b2 hK, fun _ => ⟨fun _ => J_12 hs hJ b1 b2 hK, fun _ => ⟨fun _ => J_13 hs hJ b1 b2 hK, fun _ => ⟨fun _ => J_14 hs hJ b1 b2 hK, fun _ => ⟨fun _ => J_15 hs hJ b1 b2 hK, fun _ => ⟨fun _ => J_16 hs hJ b1 b2 hK, fun _ => ⟨fun _ => J_17 hs hJ b1 b2 hK, fun _ => ⟨fun _ => J_18 hs hJ b1 b2 hK, fun _ => ⟨fun _ => J_19 hs hJ b1 b2 hK, fun _ => ⟨fun _ => J_20 hs hJ b1 b2 hK, fun _ => ⟨fun _ => J_21 hs hJ b1 b2 hK, fun _ => ⟨fun _ => J_22 hs hJ b1 b2 hK, fun _ => ⟨fun _ => J_23 hs hJ b1 b2 hK, fun _ => ⟨fun _ => J_24 hs hJ b1 b2 hK, fun _ => ⟨fun _ => J_25 hs hJ b1 b2 hK, fun _ => ⟨fun _ => J_26 hs hJ b1 b2 hK, fun _ => ⟨fun _ => J_27 hs hJ b1 b2 hK, fun _ => ⟨fun _ => J_28 hs hJ b1 b2 hK, fun _ => ⟨fun _ => J_29 hs hJ b1 b2 hK, fun _ => ⟨fun _ => J_30 hs hJ b1 b2 hK, fun _ => ⟨fun _ => J_31 hs hJ b1 b2 hK, fun _ => ⟨fun _ => J_32 hs hJ b1 b2 hK, fun _ => ⟨fun _ => J_33 hs hJ b1 b2 hK, fun _ => ⟨fun _ => J_34 hs hJ b1 b2 hK, fun _ => ⟨fun _ => J_35 hs hJ b1 b2 hK, fun _ => ⟨fun _ => J_36 hs hJ b1 b2 hK, fun _ => ⟨fun _ => J_37 hs hJ b1 b2 hK, fun _ => ⟨fun _ => J_38 hs hJ b1 b2 hK, fun _ => ⟨fun _ => J_39 hs hJ b1 b2 hK, fun _ => ⟨fun _ => J_40 hs hJ b1 b2 hK, fun _ => ⟨fun _ => J_41 hs hJ b1 b2 hK, fun _ => ⟨fun _ => J_42 hs hJ b1 b2 hK, fun _ => ⟨fun _ => J_43 hs hJ b1 b2 hK, fun _ => ⟨fun _ => J_44 hs hJ b1 b2 hK, fun _ => ⟨fun _ => J_45 hs hJ b1 b2 hK, fun _ => ⟨fun _ => J_46 hs hJ b1 b2 hK, fun _ => ⟨fun _ => J_47 hs hJ b1 b2 hK, fun _ => ⟨fun _ => J_48 hs hJ b1 b2 hK, fun _ => hK 0 μ (by decide) hJ⟩⟩⟩⟩⟩⟩⟩⟩⟩⟩⟩⟩⟩⟩⟩⟩⟩⟩⟩⟩⟩⟩⟩⟩⟩⟩⟩⟩⟩⟩⟩⟩⟩⟩⟩⟩⟩⟩⟩⟩⟩⟩⟩⟩⟩⟩⟩⟩⟩
/-! the walk -/
theorem whole_start {p : Program} {e : Env} {s : State} {m : MethodId} {below : List Frame} {meth : Method} {c : Code} (l : Launch) (hflags : l.flags = flags0) (hex : c.exceptionTable.toList = []) {b L : Nat} {xs : Nat → Int32} (hL : L ≤ 3072) (C0 : lw_At p s m meth c b L xs) : W p l e room_1 s m #[Value.ref b] below meth c s.heap [] 0 0 (lw_Z below #[Value.ref b] s) (entryFrame m ([Value.ref b] : List Value).toArray 8) := by
  obtain ⟨hx, hb, hr, hml, hown, hts, hX, hbl, hlocks, hgv⟩ := id C0
  obtain ⟨g, g1, g2, g3, g4, g5, g6, hE, hO⟩ := env_ok l hflags hts hX hbl hgv
  subst g1
  have hl := lv_entry ([.ref b]) (n := 8) (Nat.le_of_ble_eq_true rfl)
  have hw : WN g i_LAW room_1 (QL g) 0 0 0 0 [(0, .ref 2000)] [] m0 := law_head g2 (law_loop (by rw [g5]; exact hL) 513 0 155 90768 mE9 ⟨w0, 0, 0, _, mE9_JX⟩ (by rw [g5]; omega) (Nat.zero_le _) (Nat.le_refl _) (Nat.le_refl _))
  rw [lg_entry_eq]
  have k := hw p e s m #[Value.ref b] below meth c ⟨hx, hb, hml, hr, hlocks, hown, fun w h => hts w (tb_lw h), hex, hE⟩ (fun h => absurd h (by decide +kernel)) hO (by rw [g3]) s.heap [] _ ⟨Nat.zero_le _, by rw [g3]; rfl, fun k q h => by simp [wN] at h, m0_Z⟩ va_S.rf (by
    show lv_has _ 8 [(0, .ref (gr g 2000))]
    have : gr g 2000 = b := by
      unfold gr
      rw [if_neg (by omega), if_neg (by omega), if_pos (by omega)]; exact g4
    rw [this]; exact hl)
  intro T hT X
  obtain ⟨t, a1, b1⟩ := k T hT X
  exact ⟨t, a1, b1 g3⟩
