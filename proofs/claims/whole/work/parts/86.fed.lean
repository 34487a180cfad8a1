/-! feed, end, count, trial, span -/
def sv (j : Nat) : Int32 := nI 24 - nI (8 * j)
def by8 (a : Int32) (j : Nat) : Int32 := ((a >>> (sv j &&& 31)).toInt8.toInt32).toInt8.toInt32
def f5 (a b c d e : Int32) (j : Nat) : Int32 := if j = 0 then a else if j = 1 then b else if j = 2 then c else if j = 3 then d else e
def fdR (f : Nat → Int32) (n : Nat) (x : Nat → Int32) (i : Nat) : Int32 := if n ≤ i ∧ i < n + 20 then by8 (x ((i - n) / 4)) ((i - n) % 4) else f i
theorem sv_d : ∀ k, k < 4 → sv k + -8 = sv (k + 1) ∧ ¬ sv k < 0 := by decide +kernel
theorem i8_all : ∀ m, m < 256 → Int8.ofBitVec (BitVec.ofNat 8 m) = (nI m).toInt8 := by decide +kernel
theorem byt_8 (y : Int8) : byt y.toInt32 := by
  refine ⟨y.toBitVec.toNat, y.toBitVec.isLt, ?_⟩
  rw [← i8_all _ y.toBitVec.isLt]
  congr 1
  apply Int8.toBitVec_inj.mp
  show y.toBitVec = BitVec.ofNat 8 y.toBitVec.toNat
  simp
def zTp (k j : Nat) : Bool := Nat.beq k 2 || (Nat.beq k 1 && Nat.beq j 1)
def zTm (k j : Nat) : Bool := (Nat.ble 147 k && Nat.ble k 148) || (Nat.beq k 140 && (Nat.beq j 14 || Nat.beq j 0))
section FED
variable {g : Gl} {Φ : Out → Mem → Prop} {μ : Mem} {w : WD}
theorem c_put {n : Nat} {a : Int32} (hn : n + 4 ≤ 400) (h : mI μ 1 1 = nI n) (H : ∀ μ', Lz zTp μ' = Lz zTp μ → mI μ' 1 1 = nI (n + 4) → (∀ i, mI μ' 2 i = if n ≤ i ∧ i < n + 4 then by8 a (i - n) else mI μ 2 i) → Φ (.inl none) μ') :
    Spec g i_Tape_put 0 [.ref 1, .int a] μ Φ := by
  refine spi o_Tape_put rfl (v_Tape_put_0 ?_)
  refine zup (P := fun k => ∀ μ', Lz zTp μ' = Lz zTp μ → mI μ' 1 1 = nI (n + k) → (∀ i, mI μ' 2 i = if n ≤ i ∧ i < n + k then by8 a (i - n) else mI μ 2 i) → WW g i_Tape_put 0 Φ 0 0 3 [(0, .ref 1), (1, .int a), (2, .int (sv k))] [] μ') 4 ?_ ?_ μ rfl h (fun i => by rw [if_neg (by omega)])
  · intro μ' e h1 hr
    exact v_Tape_put_3 ⟨fun _ => H μ' e h1 hr, fun h => absurd (by decide +kernel) h⟩
  · intro k hk ih μ' e h1 hr
    obtain ⟨s1, s2⟩ := sv_d k hk
    refine v_Tape_put_3 ⟨fun h => absurd h s2, fun _ => ?_⟩
    rw [s1, h1, nx_nI (by omega), ← nI_succ]
    refine ⟨fun h => absurd h (nI_ge (b := 400) (by omega) (by decide)), fun _ => ⟨vp_in_nI (by omega) (by decide), ih _ ((Lz_I rfl).trans ((Lz_I rfl).trans e)) ?_ fun i => ?_⟩⟩
    · rw [rI_I, if_pos rfl, upd_s]; rfl
    · rw [rI_I, if_neg (by decide), rI_I, if_pos rfl]
      by_cases q : i = n + k
      · rw [q, upd_s, if_pos (by omega), show n + k - n = k by omega]; rfl
      · rw [upd_n q, hr]
        by_cases q2 : n ≤ i ∧ i < n + k
        · rw [if_pos q2, if_pos (by omega)]
        · rw [if_neg q2, if_neg (by omega)]
theorem C_feed {n : Nat} {a b c d e : Int32} (hn : n ≤ 400) (h : mI μ 1 1 = nI n) (H0 : 380 < n → Φ (.inl (some (.int (-1)))) μ) (H : n ≤ 380 → ∀ μ', Lz zTp μ' = Lz zTp μ → mI μ' 1 1 = nI (n + 20) → (∀ i, mI μ' 2 i = fdR (mI μ 2) n (f5 a b c d e) i) → Φ (.inl (some (.int (nI (n + 20))))) μ') :
    Spec g i_SO_feed 0 [.ref 0, .int a, .int b, .int c, .int d, .int e] μ Φ := by
  refine spi o_SO_feed rfl (v_SO_feed_0 ?_)
  rw [h]
  refine ⟨fun q => ?_, fun q => H0 ?_⟩
  · have hn2 : n ≤ 380 := by
      rw [show (380 : Int32) = nI 380 from rfl, nI_leI (by omega) (by omega)] at q; exact q
    refine c_put (n := n) (by omega) h fun μ1 e1 h1 r1 => oV ?_
    refine c_put (n := n + 4) (by omega) h1 fun μ2 e2 h2 r2 => oV ?_
    refine c_put (n := n + 4 + 4) (by omega) h2 fun μ3 e3 h3 r3 => oV ?_
    refine c_put (n := n + 4 + 4 + 4) (by omega) h3 fun μ4 e4 h4 r4 => oV ?_
    refine c_put (n := n + 4 + 4 + 4 + 4) (by omega) h4 fun μ5 e5 h5 r5 => oV ?_
    rw [h5, show n + 4 + 4 + 4 + 4 + 4 = n + 20 by omega]
    refine H hn2 μ5 (e5.trans (e4.trans (e3.trans (e2.trans e1)))) (by rw [h5, show n + 4 + 4 + 4 + 4 + 4 = n + 20 by omega]) fun i => ?_
    rw [r5, r4, r3, r2, r1]
    unfold fdR f5
    by_cases q0 : n ≤ i ∧ i < n + 20
    · rw [if_pos q0]
      obtain ⟨j, rfl⟩ : ∃ j, i = n + j := ⟨i - n, by omega⟩
      rw [show n + j - n = j by omega]
      by_cases k4 : 16 ≤ j
      · rw [if_pos (by omega), show n + j - (n + 4 + 4 + 4 + 4) = j % 4 by omega, if_neg (by omega), if_neg (by omega), if_neg (by omega), if_neg (by omega)]
      · rw [if_neg (by omega)]
        by_cases k3 : 12 ≤ j
        · rw [if_pos (by omega), show n + j - (n + 4 + 4 + 4) = j % 4 by omega, if_neg (by omega), if_neg (by omega), if_neg (by omega), if_pos (by omega)]
        · rw [if_neg (by omega)]
          by_cases k2 : 8 ≤ j
          · rw [if_pos (by omega), show n + j - (n + 4 + 4) = j % 4 by omega, if_neg (by omega), if_neg (by omega), if_pos (by omega)]
          · rw [if_neg (by omega)]
            by_cases k1 : 4 ≤ j
            · rw [if_pos (by omega), show n + j - (n + 4) = j % 4 by omega, if_neg (by omega), if_pos (by omega)]
            · rw [if_neg (by omega), if_pos (by omega), show j % 4 = j by omega, if_pos (by omega)]
    · rw [if_neg q0, if_neg (by omega), if_neg (by omega), if_neg (by omega), if_neg (by omega), if_neg (by omega)]
  · rw [show (380 : Int32) = nI 380 from rfl, nI_leI (by omega) (by omega)] at q; omega
theorem M_feed {n : Nat} {a b c d e : Int32} (hn : n ≤ 400) (h : mI μ 140 14 = nI n) (H0 : 380 < n → Φ (.inl (some (.int (-1)))) (sI μ 140 0 0)) (H : n ≤ 380 → ∀ μ', Lz zTm μ' = Lz zTm μ → mI μ' 140 14 = nI (n + 20) → (∀ i, mI μ' 147 i = fdR (mI μ 147) n (f5 a b c d e) i) → Φ (.inl (some (.int (nI (n + 20))))) μ') :
    Spec g i_Mo_feed 0 [.ref 140, .int a, .int b, .int c, .int d, .int e] μ Φ := by
  refine spi o_Mo_feed rfl (v_Mo_feed_0 ?_)
  rw [h, show (20 : Int32) = nI 20 from rfl, nI_add]
  refine ⟨fun q => ?_, fun q => H0 ?_⟩
  · have hn2 : n ≤ 380 := by
      rw [show (400 : Int32) = nI 400 from rfl, nI_leI (by omega) (by omega)] at q; omega
    refine ⟨vin 0 rfl, vin 1 rfl, vin 2 rfl, vin 3 rfl, vin 4 rfl, ?_⟩
    have z0 : Lz zTm (sI (sI (sI (sI (sI (sI μ 140 0 0) 148 (nx 0) a) 148 (nx 1) b) 148 (nx 2) c) 148 (nx 3) d) 148 (nx 4) e) = Lz zTm μ := (Lz_I rfl).trans ((Lz_I rfl).trans ((Lz_I rfl).trans ((Lz_I rfl).trans ((Lz_I rfl).trans (Lz_I rfl)))))
    have h14 : mI (sI (sI (sI (sI (sI (sI μ 140 0 0) 148 (nx 0) a) 148 (nx 1) b) 148 (nx 2) c) 148 (nx 3) d) 148 (nx 4) e) 140 14 = nI n := h
    have h147 : mI (sI (sI (sI (sI (sI (sI μ 140 0 0) 148 (nx 0) a) 148 (nx 1) b) 148 (nx 2) c) 148 (nx 3) d) 148 (nx 4) e) 147 = mI μ 147 := rfl
    have h148 : ∀ j, j < 5 → mI (sI (sI (sI (sI (sI (sI μ 140 0 0) 148 (nx 0) a) 148 (nx 1) b) 148 (nx 2) c) 148 (nx 3) d) 148 (nx 4) e) 148 j = f5 a b c d e j := by
      intro j hj
      match j, hj with
      | 0, _ => rfl
      | 1, _ => rfl
      | 2, _ => rfl
      | 3, _ => rfl
      | 4, _ => rfl
    generalize (sI (sI (sI (sI (sI (sI μ 140 0 0) 148 (nx 0) a) 148 (nx 1) b) 148 (nx 2) c) 148 (nx 3) d) 148 (nx 4) e) = μ1 at *
    refine zup (P := fun k => ∀ μ', Lz zTm μ' = Lz zTm μ1 → mI μ' 140 14 = nI n → mI μ' 148 = mI μ1 148 → (∀ i, mI μ' 147 i = if n ≤ i ∧ i < n + k then by8 (f5 a b c d e ((i - n) / 4)) ((i - n) % 4) else mI μ 147 i) → WW g i_Mo_feed 0 Φ 0 0 60 [(0, .ref 140), (6, .int (nI k))] [] μ') 20 ?_ ?_ μ1 rfl h14 rfl (fun i => by rw [if_neg (by omega), h147])
    · intro μ' e1 k1 k2 k3
      refine v_Mo_feed_60 ⟨fun _ => ?_, fun h => absurd (nI_le (a := 20) (b := 20) (by decide) (by decide)) h⟩
      rw [k1, show (20 : Int32) = nI 20 from rfl, nI_add]
      refine H hn2 _ ((Lz_I rfl).trans (e1.trans z0)) ?_ fun i => ?_
      · rw [rI_I, if_pos rfl, upd_s]
      · rw [rI_I, if_neg (by decide)]; exact k3 i
    · intro k hk ih μ' e1 k1 k2 k3
      refine v_Mo_feed_60 ⟨fun h => absurd h (nI_ge (b := 20) hk (by decide)), fun _ => ?_⟩
      have d1 : nI k / 4 = nI (k / 4) := by rw [show (4 : Int32) = nI 4 from rfl, pk_div (by omega) (by decide) (by decide)]
      have d2 : nI k - nI k / 4 * 4 = nI (k % 4) := by rw [show (4 : Int32) = nI 4 from rfl, pk_rem (by omega) (by decide) (by decide)]
      have d3 : (24 : Int32) - 8 * nI (k % 4) = sv (k % 4) := by rw [show (8 : Int32) = nI 8 from rfl, pk_mul]; rfl
      rw [d2, d1, d3, k1, nI_add, nx_nI (by omega), nx_nI (by omega), k2, h148 _ (by omega), ← nI_succ]
      refine ⟨by decide, vp_in_nI (by omega) (by decide), by decide, vp_in_nI (by omega) (by decide), ih _ ((Lz_I rfl).trans e1) k1 k2 fun i => ?_⟩
      rw [rI_I, if_pos rfl]
      by_cases q1 : i = n + k
      · rw [q1, upd_s, if_pos (by omega), show n + k - n = k by omega]; rfl
      · rw [upd_n q1, k3]
        by_cases q2 : n ≤ i ∧ i < n + k
        · rw [if_pos q2, if_pos (by omega)]
        · rw [if_neg q2, if_neg (by omega)]
  · rw [show (400 : Int32) = nI 400 from rfl, nI_leI (by omega) (by omega)] at q; omega
theorem C_end {n : Nat} {a : Int32} (hn : n ≤ 400) (h : mI μ 1 1 = nI n) (H0 : ix (n + 1) a = none → Φ (.inl (some (.int 0))) μ) (H : ∀ k, k ≤ n → ix (n + 1) a = some k → Φ (.inl (some (.int 1))) (sI μ 1 1 (nI k))) : Spec g i_SO_end 0 [.ref 0, .int a] μ Φ := by
  refine spi o_SO_end rfl (v_SO_end_0 ?_)
  rw [h]
  rcases ix_cs (n := n + 1) (by omega) a with ⟨e, ha⟩ | ⟨k, hk, rfl, e⟩
  · refine ⟨fun _ => z01 (H0 e), fun h1 => ⟨fun h2 => ?_, fun _ => z01 (H0 e)⟩⟩
    rcases ha with q | q
    · exact absurd q h1
    · exact absurd (Int32.le_trans q h2) (nI_ge (a := n) (b := n + 1) (by omega) (by omega))
  · exact ⟨fun h => absurd h (nI_pos (by omega)), fun _ => ⟨fun _ => z11 (H k (by omega) e), fun h => absurd (nI_le (show k ≤ n by omega) (by omega)) h⟩⟩
theorem M_end {n : Nat} {a : Int32} (hn : n ≤ 400) (h : mI μ 140 14 = nI n) (H0 : ix (n + 1) a = none → Φ (.inl (some (.int 0))) (sI μ 140 0 0)) (H : ∀ k, k ≤ n → ix (n + 1) a = some k → Φ (.inl (some (.int 1))) (sI (sI μ 140 0 0) 140 14 (nI k))) : Spec g i_Mo_end 0 [.ref 140, .int a] μ Φ := by
  refine spi o_Mo_end rfl (v_Mo_end_0 ?_)
  rw [h]
  rcases ix_cs (n := n + 1) (by omega) a with ⟨e, ha⟩ | ⟨k, hk, rfl, e⟩
  · refine ⟨fun _ => z01 (H0 e), fun h1 => ⟨fun h2 => ?_, fun _ => z01 (H0 e)⟩⟩
    rcases ha with q | q
    · exact absurd q h1
    · exact absurd (Int32.le_trans q h2) (nI_ge (a := n) (b := n + 1) (by omega) (by omega))
  · exact ⟨fun h => absurd h (nI_pos (by omega)), fun _ => ⟨fun _ => z11 (H k (by omega) e), fun h => absurd (nI_le (show k ≤ n by omega) (by omega)) h⟩⟩
def bcL (a : Int64) : Int32 :=
  let b := a - ((lush a 1) &&& 6148914691236517205)
  let c := (b &&& 3689348814741910323) + ((lush b 2) &&& 3689348814741910323)
  let d := (c + (lush c 4)) &&& 1085102592571150095
  let e := d + (lush d 8)
  let f := e + (lush e 16)
  let h := f + (lush f 32)
  h.toInt32 &&& 127
theorem c_lbc {a : Int64} (H : Φ (.inl (some (.int (bcL a)))) μ) : Spec g i_Lng_bitCount 0 [.long a] μ Φ := spi o_Lng_bitCount rfl (v_Lng_bitCount_0 H)
def q_count (w : WD) (r : Nat) (a : Int32) : Int32 := match ix 12 a with
  | none => -1
  | some k => if k = 4 then (if w.1 4 = 1 then w.1 1015 else -1) else if k = 7 then bcL w.2 else if k = 8 then nI (sm (fun t => if bt (msk (th w) (fun _ => true)) t then lf w t else 0) (th w)) else if k = 9 then msk 10 (fun p => !her w p) else if k = 10 then w.1 7 else if k = 11 then nI r else w.1 k
theorem C_count {r : Nat} {a : Int32} (c : CI μ w) (h8 : mI μ 0 8 = nI r) (H : Φ (.inl (some (.int (q_count w r a)))) μ) : Spec g i_SO_count 0 [.ref 0, .int a] μ Φ := by
  refine spi o_SO_count rfl (v_SO_count_0 ?_)
  unfold q_count at H
  rcases ix_cs (n := 12) (by decide) a with ⟨e, ha⟩ | ⟨k, hk, rfl, e⟩
  · have ne : ∀ j, j < 12 → ¬ a = nI j := fun j hj q => by
      rw [q] at ha
      rcases ha with h | h
      · exact nI_pos (by omega) h
      · exact nI_ge hj (by omega) h
    rw [e] at H
    exact ⟨fun h => absurd h (ne 0 (by omega)), fun _ => ⟨fun h => absurd h (ne 1 (by omega)), fun _ => ⟨fun h => absurd h (ne 2 (by omega)), fun _ => ⟨fun h => absurd h (ne 3 (by omega)), fun _ => ⟨fun h => absurd h (ne 4 (by omega)), fun _ => ⟨fun h => absurd h (ne 5 (by omega)), fun _ => ⟨fun h => absurd h (ne 6 (by omega)), fun _ => ⟨fun h => absurd h (ne 7 (by omega)), fun _ => ⟨fun h => absurd h (ne 8 (by omega)), fun _ => ⟨fun h => absurd h (ne 9 (by omega)), fun _ => ⟨fun h => absurd h (ne 10 (by omega)), fun _ => ⟨fun h => absurd h (ne 11 (by omega)), fun _ => H⟩⟩⟩⟩⟩⟩⟩⟩⟩⟩⟩⟩
  · rw [e] at H
    have tr : ∀ {x : Int32} {y : Int32}, y = x → Φ (.inl (some (.int x))) μ → Φ (.inl (some (.int y))) μ := fun e h => by rw [e]; exact h
    match k, hk with
    | 0, _ => exact ⟨fun _ => tr c.1.1.1 H, fun h => absurd rfl h⟩
    | 1, _ => exact ⟨fun h => absurd h (by decide), fun _ => ⟨fun _ => tr c.1.1.2.1 H, fun h => absurd rfl h⟩⟩
    | 2, _ => exact ⟨fun h => absurd h (by decide), fun _ => ⟨fun h => absurd h (by decide), fun _ => ⟨fun _ => tr c.1.1.2.2.1 H, fun h => absurd rfl h⟩⟩⟩
    | 3, _ => exact ⟨fun h => absurd h (by decide), fun _ => ⟨fun h => absurd h (by decide), fun _ => ⟨fun h => absurd h (by decide), fun _ => ⟨fun _ => tr c.1.1.2.2.2.2.1 H, fun h => absurd rfl h⟩⟩⟩⟩
    | 4, _ => exact ⟨fun h => absurd h (by decide), fun _ => ⟨fun h => absurd h (by decide), fun _ => ⟨fun h => absurd h (by decide), fun _ => ⟨fun h => absurd h (by decide), fun _ => ⟨fun _ => tr c.1.2.2.1.1 H, fun h => absurd rfl h⟩⟩⟩⟩⟩
    | 5, _ => exact ⟨fun h => absurd h (by decide), fun _ => ⟨fun h => absurd h (by decide), fun _ => ⟨fun h => absurd h (by decide), fun _ => ⟨fun h => absurd h (by decide), fun _ => ⟨fun h => absurd h (by decide), fun _ => ⟨fun _ => tr (ci_day c) H, fun h => absurd rfl h⟩⟩⟩⟩⟩⟩
    | 6, _ => exact ⟨fun h => absurd h (by decide), fun _ => ⟨fun h => absurd h (by decide), fun _ => ⟨fun h => absurd h (by decide), fun _ => ⟨fun h => absurd h (by decide), fun _ => ⟨fun h => absurd h (by decide), fun _ => ⟨fun h => absurd h (by decide), fun _ => ⟨fun _ => tr c.1.1.2.2.2.1 H, fun h => absurd rfl h⟩⟩⟩⟩⟩⟩⟩
    | 7, _ => exact ⟨fun h => absurd h (by decide), fun _ => ⟨fun h => absurd h (by decide), fun _ => ⟨fun h => absurd h (by decide), fun _ => ⟨fun h => absurd h (by decide), fun _ => ⟨fun h => absurd h (by decide), fun _ => ⟨fun h => absurd h (by decide), fun _ => ⟨fun h => absurd h (by decide), fun _ => ⟨fun _ => c_lbc (oI (by rw [ci_sto c]; exact H)), fun h => absurd rfl h⟩⟩⟩⟩⟩⟩⟩⟩
    | 8, _ => exact ⟨fun h => absurd h (by decide), fun _ => ⟨fun h => absurd h (by decide), fun _ => ⟨fun h => absurd h (by decide), fun _ => ⟨fun h => absurd h (by decide), fun _ => ⟨fun h => absurd h (by decide), fun _ => ⟨fun h => absurd h (by decide), fun _ => ⟨fun h => absurd h (by decide), fun _ => ⟨fun h => absurd h (by decide), fun _ => ⟨fun _ => c_all c (oI (c_cLO c (oI H))), fun h => absurd rfl h⟩⟩⟩⟩⟩⟩⟩⟩⟩
    | 9, _ => exact ⟨fun h => absurd h (by decide), fun _ => ⟨fun h => absurd h (by decide), fun _ => ⟨fun h => absurd h (by decide), fun _ => ⟨fun h => absurd h (by decide), fun _ => ⟨fun h => absurd h (by decide), fun _ => ⟨fun h => absurd h (by decide), fun _ => ⟨fun h => absurd h (by decide), fun _ => ⟨fun h => absurd h (by decide), fun _ => ⟨fun h => absurd h (by decide), fun _ => ⟨fun _ => tr (ci_abs c) H, fun h => absurd rfl h⟩⟩⟩⟩⟩⟩⟩⟩⟩⟩
    | 10, _ => exact ⟨fun h => absurd h (by decide), fun _ => ⟨fun h => absurd h (by decide), fun _ => ⟨fun h => absurd h (by decide), fun _ => ⟨fun h => absurd h (by decide), fun _ => ⟨fun h => absurd h (by decide), fun _ => ⟨fun h => absurd h (by decide), fun _ => ⟨fun h => absurd h (by decide), fun _ => ⟨fun h => absurd h (by decide), fun _ => ⟨fun h => absurd h (by decide), fun _ => ⟨fun h => absurd h (by decide), fun _ => ⟨fun _ => tr c.1.2.1.2.2.2.1 H, fun h => absurd rfl h⟩⟩⟩⟩⟩⟩⟩⟩⟩⟩⟩
    | 11, _ => exact ⟨fun h => absurd h (by decide), fun _ => ⟨fun h => absurd h (by decide), fun _ => ⟨fun h => absurd h (by decide), fun _ => ⟨fun h => absurd h (by decide), fun _ => ⟨fun h => absurd h (by decide), fun _ => ⟨fun h => absurd h (by decide), fun _ => ⟨fun h => absurd h (by decide), fun _ => ⟨fun h => absurd h (by decide), fun _ => ⟨fun h => absurd h (by decide), fun _ => ⟨fun h => absurd h (by decide), fun _ => ⟨fun h => absurd h (by decide), fun _ => ⟨fun _ => tr h8 H, fun h => absurd rfl h⟩⟩⟩⟩⟩⟩⟩⟩⟩⟩⟩⟩
theorem M_count {r : Nat} {a : Int32} (m : MW μ w) (h8 : mI μ 140 12 = nI r) (H : Φ (.inl (some (.int (q_count w r a)))) (sI μ 140 0 0)) : Spec g i_Mo_count 0 [.ref 140, .int a] μ Φ := by
  have p10 := (wf_pe m.2.1).2
  have m0 : MW (sI μ 140 0 0) w := MW_0 m
  refine spi o_Mo_count rfl (v_Mo_count_0 ?_)
  unfold q_count at H
  have e141 : ∀ j, mI (sI μ 140 0 0) 141 j = w.1 j := fun j => congrFun (mw_i m0) j
  rcases ix_cs (n := 12) (by decide) a with ⟨e, ha⟩ | ⟨k, hk, rfl, e⟩
  · have ne : ∀ j, j < 12 → ¬ a = nI j := fun j hj q => by
      rw [q] at ha
      rcases ha with h | h
      · exact nI_pos (by omega) h
      · exact nI_ge hj (by omega) h
    rw [e] at H
    have ha7 : a < 0 ∨ nI (6 + 1) ≤ a := ha.imp id fun h => Int32.le_trans (by decide) h
    exact ⟨fun h => absurd h (ne 4 (by omega)), fun _ => ⟨fun h => absurd h (ne 5 (by omega)), fun _ => ⟨fun h => absurd h (ne 6 (by omega)), fun _ => ⟨fun h => absurd h (ne 7 (by omega)), fun _ => ⟨fun h => absurd h (ne 8 (by omega)), fun _ => ⟨fun h => absurd h (ne 9 (by omega)), fun _ => ⟨fun h => absurd h (ne 10 (by omega)), fun _ => ⟨fun h => absurd h (ne 11 (by omega)), fun _ => m_in0 (n := 6) (by decide) ha7 (oI ⟨fun _ => H, fun h => absurd rfl h⟩)⟩⟩⟩⟩⟩⟩⟩⟩
  · rw [e] at H
    have tr : ∀ {x : Int32} {y : Int32}, y = x → Φ (.inl (some (.int x))) (sI μ 140 0 0) → Φ (.inl (some (.int y))) (sI μ 140 0 0) := fun e h => by rw [e]; exact h
    match k, hk with
    | 4, _ =>
      refine ⟨fun _ => ⟨vin 4 rfl, fun h => ?_, fun h => ⟨vin 1015 rfl, ?_⟩⟩, fun h => absurd rfl h⟩
      · have h : ¬ w.1 4 = 1 := fun q => h (by rw [mw_i m]; exact q)
        refine tr ?_ H; show (-1 : Int32) = if w.1 4 = 1 then w.1 1015 else -1; rw [if_neg h]
      · have h : w.1 4 = 1 := by rw [mw_i m] at h; exact h
        refine tr ?_ H; show _ = if w.1 4 = 1 then w.1 1015 else -1; rw [if_pos h, mw_i m]; rfl
    | 5, _ => exact ⟨fun h => absurd h (by decide), fun _ => ⟨fun _ => m_in1 (n := 6) (j := 5) (by decide) (by decide) (oI ⟨fun h => absurd h (by decide), fun _ => ⟨vin 5 rfl, tr (e141 _) H⟩⟩), fun h => absurd rfl h⟩⟩
    | 6, _ => exact ⟨fun h => absurd h (by decide), fun _ => ⟨fun h => absurd h (by decide), fun _ => ⟨fun _ => m_in1 (n := 6) (j := 6) (by decide) (by decide) (oI ⟨fun h => absurd h (by decide), fun _ => ⟨vin 6 rfl, tr (e141 _) H⟩⟩), fun h => absurd rfl h⟩⟩⟩
    | 7, _ => exact ⟨fun h => absurd h (by decide), fun _ => ⟨fun h => absurd h (by decide), fun _ => ⟨fun h => absurd h (by decide), fun _ => ⟨fun _ => c_lbc (oI (by rw [mw_l m]; exact H)), fun h => absurd rfl h⟩⟩⟩⟩
    | 8, _ =>
      refine ⟨fun h => absurd h (by decide), fun _ => ⟨fun h => absurd h (by decide), fun _ => ⟨fun h => absurd h (by decide), fun _ => ⟨fun h => absurd h (by decide), fun _ => ⟨fun _ => m_th m0 (oI ?_), fun h => absurd rfl h⟩⟩⟩⟩⟩
      rw [msk_full (by have := (wf_th m.2.1).2; omega)]
      exact m_lin m0 (oI H)
    | 9, _ =>
      refine ⟨fun h => absurd h (by decide), fun _ => ⟨fun h => absurd h (by decide), fun _ => ⟨fun h => absurd h (by decide), fun _ => ⟨fun h => absurd h (by decide), fun _ => ⟨fun h => absurd h (by decide), fun _ => ⟨fun _ => m_pe m0 (oI (m_here m0 (oI ?_))), fun h => absurd rfl h⟩⟩⟩⟩⟩⟩
      refine tr ?_ H
      show _ = msk 10 (fun p => !her w p)
      apply msk_ext (by omega)
      intro i hi
      rw [b_and, b_full (by omega) hi, b_not hi, b_msk (by omega) hi]
      by_cases q : i < pe w
      · simp [q]; omega
      · by_cases q2 : i < 10
        · have := (m.2.1.2.2.2.2.2.2.2.1 i q2).2.2.2.2.2.2 (by omega)
          have hh : her w i = true := by unfold her; rw [this]; rfl
          simp [q, hh]
        · simp [q, q2]
    | 10, _ => exact ⟨fun h => absurd h (by decide), fun _ => ⟨fun h => absurd h (by decide), fun _ => ⟨fun h => absurd h (by decide), fun _ => ⟨fun h => absurd h (by decide), fun _ => ⟨fun h => absurd h (by decide), fun _ => ⟨fun h => absurd h (by decide), fun _ => ⟨fun _ => ⟨vin 7 rfl, tr (congrFun (mw_i m) 7) H⟩, fun h => absurd rfl h⟩⟩⟩⟩⟩⟩⟩
    | 11, _ => exact ⟨fun h => absurd h (by decide), fun _ => ⟨fun h => absurd h (by decide), fun _ => ⟨fun h => absurd h (by decide), fun _ => ⟨fun h => absurd h (by decide), fun _ => ⟨fun h => absurd h (by decide), fun _ => ⟨fun h => absurd h (by decide), fun _ => ⟨fun h => absurd h (by decide), fun _ => ⟨fun _ => tr h8 H, fun h => absurd rfl h⟩⟩⟩⟩⟩⟩⟩⟩
    | 0, _ => exact ⟨fun h => absurd h (by decide), fun _ => ⟨fun h => absurd h (by decide), fun _ => ⟨fun h => absurd h (by decide), fun _ => ⟨fun h => absurd h (by decide), fun _ => ⟨fun h => absurd h (by decide), fun _ => ⟨fun h => absurd h (by decide), fun _ => ⟨fun h => absurd h (by decide), fun _ => ⟨fun h => absurd h (by decide), fun _ => m_in1 (n := 6) (j := 0) (by decide) (by decide) (oI ⟨fun h => absurd h (by decide), fun _ => ⟨vin 0 rfl, tr (e141 _) H⟩⟩)⟩⟩⟩⟩⟩⟩⟩⟩
    | 1, _ => exact ⟨fun h => absurd h (by decide), fun _ => ⟨fun h => absurd h (by decide), fun _ => ⟨fun h => absurd h (by decide), fun _ => ⟨fun h => absurd h (by decide), fun _ => ⟨fun h => absurd h (by decide), fun _ => ⟨fun h => absurd h (by decide), fun _ => ⟨fun h => absurd h (by decide), fun _ => ⟨fun h => absurd h (by decide), fun _ => m_in1 (n := 6) (j := 1) (by decide) (by decide) (oI ⟨fun h => absurd h (by decide), fun _ => ⟨vin 1 rfl, tr (e141 _) H⟩⟩)⟩⟩⟩⟩⟩⟩⟩⟩
    | 2, _ => exact ⟨fun h => absurd h (by decide), fun _ => ⟨fun h => absurd h (by decide), fun _ => ⟨fun h => absurd h (by decide), fun _ => ⟨fun h => absurd h (by decide), fun _ => ⟨fun h => absurd h (by decide), fun _ => ⟨fun h => absurd h (by decide), fun _ => ⟨fun h => absurd h (by decide), fun _ => ⟨fun h => absurd h (by decide), fun _ => m_in1 (n := 6) (j := 2) (by decide) (by decide) (oI ⟨fun h => absurd h (by decide), fun _ => ⟨vin 2 rfl, tr (e141 _) H⟩⟩)⟩⟩⟩⟩⟩⟩⟩⟩
    | 3, _ => exact ⟨fun h => absurd h (by decide), fun _ => ⟨fun h => absurd h (by decide), fun _ => ⟨fun h => absurd h (by decide), fun _ => ⟨fun h => absurd h (by decide), fun _ => ⟨fun h => absurd h (by decide), fun _ => ⟨fun h => absurd h (by decide), fun _ => ⟨fun h => absurd h (by decide), fun _ => ⟨fun h => absurd h (by decide), fun _ => m_in1 (n := 6) (j := 3) (by decide) (by decide) (oI ⟨fun h => absurd h (by decide), fun _ => ⟨vin 3 rfl, tr (e141 _) H⟩⟩)⟩⟩⟩⟩⟩⟩⟩⟩
end FED
