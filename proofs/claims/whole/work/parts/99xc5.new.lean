theorem WN.cast {g : Gl} {mi : MI} {R : Room} {Q : QT} {n n' nc nc' ns ns' pc : Nat} {ls : List (Nat × Value)} {st : List Value} {μ μ' : Mem} (h1 : n = n') (h2 : nc = nc') (h3 : ns = ns') (h4 : μ = μ') (h : WN g mi R Q n' nc' ns' pc ls st μ') : WN g mi R Q n nc ns pc ls st μ := by
  subst h1; subst h2; subst h3; subst h4; exact h
theorem mI_ne {μ : Mem} {k j a b : Nat} {x : Int32} (h : a ≠ k) : mI (sI μ k j x) a b = mI μ a b := by rw [show mI (sI μ k j x) a = mI μ a from u2_row h]
def ml : Nat → Nat → Mem → Mem
  | 0, _, μ => μ
  | d + 1, t, μ => ml d (t + 1) (sI (sP (w_Sta (92 + 4 * t) μ) t (92 + 4 * t)) 91 t 1)
theorem so_F : ∀ t, t < 12 → ok_Sta (92 + 4 * t) = true ∧ (sh (92 + 4 * t)).1 = 8 ∧ (¬ (12 : Int32) ≤ nI t) ∧ (¬ (nI t < 0 ∨ 12 ≤ (nI t).toNatClampNeg)) ∧ nx (nI t) = t ∧ nI t + iv 1 = nI (t + 1) := by decide +kernel
set_option maxRecDepth 100000 in
set_option maxHeartbeats 4000000 in
theorem so_loop {g : Gl} (hG : GL g) : ∀ (d t n nc ns : Nat) (μ : Mem), t + d = 12 → n = 92 + 4 * t → nc = 91 + 4 * t → ns = 4205 + 38 * t → mI μ 0 7 = 1 → WN g i_N_SO (rm i_N_SO 0) (QN g i_N_SO 140 (ml d t μ)) n nc ns 108 [(0, .ref 0), (1, .int (nI t))] [] μ := by
  intro d
  induction d with
  | zero =>
    intro t n nc ns μ ht hn hnc hns h7
    have ht : t = 12 := by omega
    subst ht; subst hn; subst hnc; subst hns
    refine wn_iload_n (i := 1) (a := nI 12) rfl (by decide +kernel) ?_
    refine wn_bipush (v := 12) (x := (12 : Int32)) (by decide) (by decide +kernel) ?_
    refine wn_icmp_ge (off := 22) (by decide) (by decide +kernel) ⟨fun _ => ?_, fun h => absurd (by decide +kernel) h⟩
    exact wn_ret rfl rfl rfl (Nat.le_of_ble_eq_true rfl) (Nat.le_of_ble_eq_true rfl) (by decide +kernel)
  | succ d ih =>
    intro t n nc ns μ ht hn hnc hns h7
    obtain ⟨f1, f2, f3, f4, f5, f6⟩ := so_F t (by omega)
    refine wn_iload_n (i := 1) (a := nI t) rfl (by decide +kernel) ?_
    refine wn_bipush (v := 12) (x := (12 : Int32)) (by decide) (by decide +kernel) ?_
    refine wn_icmp_ge (off := 22) (by decide) (by decide +kernel) ⟨fun h => absurd h f3, fun _ => ?_⟩
    refine wn_aload_n (i := 0) (a := 0) rfl (by decide +kernel) ?_
    refine wn_getR (idx := 60) (ci := 10) (j := 7) (pl := 12171) (v := 91) (by decide +kernel) (by decide +kernel) (by omega) (by decide +kernel) (by decide) (by decide +kernel) h7 (by decide +kernel) ?_
    refine wn_iload_n (i := 1) (a := nI t) rfl (by decide +kernel) ?_
    have hcell : (rm i_N_SO 0).cells = 139 := rfl
    have hslot : (rm i_N_SO 0).slots = 4661 := rfl
    have hNC : n < NC := by show n < 155; omega
    refine wn_new (idx := 58) (ci := 8) (r := ("SaidOnce$State", cT8, 8)) hG hNC (by rw [hn]; exact f2) rfl (tb_of (i := 12161) (by decide +kernel)) (tb_of (i := 11155) (by decide +kernel)) (tb_of (i := 11005) (by decide +kernel)) (by rw [hcell]; omega) (by rw [hslot]; show ns + 8 ≤ _; omega) (by decide +kernel) ?_
    refine wn_dup rfl (by decide +kernel) ?_
    refine wn_call (idx := 64) (dx := 0) (cnt := 0) (k := n) (As := []) (st := [.ref n, .int (nI t), .ref 91]) (n' := n + 1 + 3) rfl o_N_Sta rfl rfl rfl (Or.inr (nw_of (i := 12163) (by decide +kernel))) (tb_of (i := 11157) (by decide +kernel)) (tb_of (i := 11005) (by decide +kernel)) rfl (Nat.le_of_ble_eq_true rfl) ⟨(Nat.le_of_ble_eq_true rfl), (Nat.le_of_ble_eq_true rfl), by rw [hcell]; show nc + 1 + 3 ≤ _; omega, by rw [hslot]; show ns + 8 + 30 ≤ _; omega⟩ (by decide +kernel) (k_Sta n hG (by rw [hn]; exact f1)) ?_
    refine wn_aast (k := 91) (N := 12) (i := nI t) hG (by first | omega | decide) (by decide +kernel) f4 (by omega) (by rw [hn]; exact f2) (by decide +kernel) ?_
    refine wn_iinc (i := 1) (v := 1) (by decide) (x := nI t) rfl (by decide +kernel) ?_
    refine wn_goto (off := -22) (by decide) (by decide +kernel) ?_
    rw [f5, f6]
    have e9 := ih (t + 1) (n + 1 + 3) (nc + 1 + 3) (ns + 8 + 30) (sI (sP (w_Sta n μ) t n) 91 t 1) (by omega) (by omega) (by omega) (by omega) (by
      rw [mI_ne (by decide)]
      show mI (w_Sta n μ) 0 7 = 1
      unfold w_Sta
      rw [mI_ne (by omega), mI_ne (by omega), mI_ne (by omega), mI_ne (by omega)]
      exact h7)
    subst hn
    exact e9
def w_SO0 (μ : Mem) : Mem := sI (sI (w_LawR (sI (w_SchR (sI (w_Se (sI (w_Pl (sI (w_Sch 34 (sI (w_Sch 3 (sI (w_Tape 1 μ) 0 0 1)) 0 1 1)) 0 2 1)) 0 3 1)) 0 4 1)) 0 5 1)) 0 6 1) 0 7 1
set_option maxRecDepth 100000 in
set_option maxHeartbeats 4000000 in
theorem k_SO {g : Gl} {μ : Mem} (hG : GL g) : SpN g i_N_SO 0 [.ref 0] 1 μ 140 (ml 12 0 (w_SO0 μ)) := by
  refine SpN.intro o_N_SO rfl (Nat.le_of_ble_eq_true rfl) ?_
  refine wn_aload_n (i := 0) (a := 0) rfl (by decide +kernel) ?_
  refine wn_obj (idx := 1) (tb_of (i := 11036) (by decide +kernel)) tb_oi1 tb_oi2 (Nat.le_of_ble_eq_true rfl) (Nat.le_of_ble_eq_true rfl) (Nat.le_of_ble_eq_true rfl) (by decide +kernel) ?_
  refine wn_aload_n (i := 0) (a := 0) rfl (by decide +kernel) ?_
  refine wn_new (idx := 7) (ci := 9) (r := ("SaidOnce$Tape", cT9, 7)) hG (by first | omega | decide) (by decide +kernel) rfl (tb_of (i := 11039) (by decide +kernel)) (tb_of (i := 11040) (by decide +kernel)) (tb_of (i := 11002) (by decide +kernel)) (Nat.le_of_ble_eq_true rfl) (Nat.le_of_ble_eq_true rfl) (by decide +kernel) ?_
  refine wn_dup rfl (by decide +kernel) ?_
  refine wn_call (idx := 9) (dx := 0) (cnt := 0) (k := 1) (As := []) (st := [.ref 1, .ref 0]) (n' := 3) rfl o_N_Tape rfl rfl rfl (Or.inr (nw_of (i := 11041) (by decide +kernel))) (tb_of (i := 11042) (by decide +kernel)) (tb_of (i := 11002) (by decide +kernel)) rfl (Nat.le_of_ble_eq_true rfl) ⟨(Nat.le_of_ble_eq_true rfl), (Nat.le_of_ble_eq_true rfl), (Nat.le_of_ble_eq_true rfl), (Nat.le_of_ble_eq_true rfl)⟩ (by decide +kernel) (k_Tape 1 hG (by decide +kernel)) ?_
  refine wn_putR (idx := 10) (ci := 10) (j := 0) (pl := 12164) hG rfl (by decide +kernel) (by decide +kernel) (by first | omega | decide) (by decide +kernel) (by first | omega | decide) (by decide +kernel) (by decide +kernel) ?_
  refine wn_aload_n (i := 0) (a := 0) rfl (by decide +kernel) ?_
  refine wn_new (idx := 16) (ci := 4) (r := ("SaidOnce$School", cT4, 6)) hG (by first | omega | decide) (by decide +kernel) rfl (tb_of (i := 11075) (by decide +kernel)) (tb_of (i := 11076) (by decide +kernel)) (tb_of (i := 11003) (by decide +kernel)) (Nat.le_of_ble_eq_true rfl) (Nat.le_of_ble_eq_true rfl) (by decide +kernel) ?_
  refine wn_dup rfl (by decide +kernel) ?_
  refine wn_call (idx := 18) (dx := 0) (cnt := 0) (k := 3) (As := []) (st := [.ref 3, .ref 0]) (n' := 34) rfl o_N_Sch rfl rfl rfl (Or.inr (nw_of (i := 11077) (by decide +kernel))) (tb_of (i := 11078) (by decide +kernel)) (tb_of (i := 11003) (by decide +kernel)) rfl (Nat.le_of_ble_eq_true rfl) ⟨(Nat.le_of_ble_eq_true rfl), (Nat.le_of_ble_eq_true rfl), (Nat.le_of_ble_eq_true rfl), (Nat.le_of_ble_eq_true rfl)⟩ (by decide +kernel) (k_Sch 3 hG (by decide +kernel)) ?_
  refine wn_putR (idx := 19) (ci := 10) (j := 1) (pl := 12165) hG rfl (by decide +kernel) (by decide +kernel) (by first | omega | decide) (by decide +kernel) (by first | omega | decide) (by decide +kernel) (by decide +kernel) ?_
  refine wn_aload_n (i := 0) (a := 0) rfl (by decide +kernel) ?_
  refine wn_new (idx := 16) (ci := 4) (r := ("SaidOnce$School", cT4, 6)) hG (by first | omega | decide) (by decide +kernel) rfl (tb_of (i := 11075) (by decide +kernel)) (tb_of (i := 11076) (by decide +kernel)) (tb_of (i := 11003) (by decide +kernel)) (Nat.le_of_ble_eq_true rfl) (Nat.le_of_ble_eq_true rfl) (by decide +kernel) ?_
  refine wn_dup rfl (by decide +kernel) ?_
  refine wn_call (idx := 18) (dx := 0) (cnt := 0) (k := 34) (As := []) (st := [.ref 34, .ref 0]) (n' := 65) rfl o_N_Sch rfl rfl rfl (Or.inr (nw_of (i := 11077) (by decide +kernel))) (tb_of (i := 11078) (by decide +kernel)) (tb_of (i := 11003) (by decide +kernel)) rfl (Nat.le_of_ble_eq_true rfl) ⟨(Nat.le_of_ble_eq_true rfl), (Nat.le_of_ble_eq_true rfl), (Nat.le_of_ble_eq_true rfl), (Nat.le_of_ble_eq_true rfl)⟩ (by decide +kernel) (k_Sch 34 hG (by decide +kernel)) ?_
  refine wn_putR (idx := 23) (ci := 10) (j := 2) (pl := 12166) hG rfl (by decide +kernel) (by decide +kernel) (by first | omega | decide) (by decide +kernel) (by first | omega | decide) (by decide +kernel) (by decide +kernel) ?_
  refine wn_aload_n (i := 0) (a := 0) rfl (by decide +kernel) ?_
  refine wn_new (idx := 26) (ci := 3) (r := ("SaidOnce$Planner", cT3, 6)) hG (by first | omega | decide) (by decide +kernel) rfl (tb_of (i := 12070) (by decide +kernel)) (tb_of (i := 12071) (by decide +kernel)) (tb_of (i := 11008) (by decide +kernel)) (Nat.le_of_ble_eq_true rfl) (Nat.le_of_ble_eq_true rfl) (by decide +kernel) ?_
  refine wn_dup rfl (by decide +kernel) ?_
  refine wn_aload_n (i := 0) (a := 0) rfl (by decide +kernel) ?_
  refine wn_getR (idx := 19) (ci := 10) (j := 1) (pl := 12165) (v := 3) (by decide +kernel) (by decide +kernel) (by first | omega | decide) (by decide +kernel) (by first | omega | decide) (by decide +kernel) rfl (by decide +kernel) ?_
  refine wn_call (idx := 28) (dx := 0) (cnt := 1) (k := 65) (As := [.ref 3]) (st := [.ref 65, .ref 0]) (n' := 68) rfl o_N_Pl rfl rfl rfl (Or.inl (tb_of (i := 12072) (by decide +kernel))) (tb_of (i := 12073) (by decide +kernel)) (tb_of (i := 11008) (by decide +kernel)) rfl (Nat.le_of_ble_eq_true rfl) ⟨(Nat.le_of_ble_eq_true rfl), (Nat.le_of_ble_eq_true rfl), (Nat.le_of_ble_eq_true rfl), (Nat.le_of_ble_eq_true rfl)⟩ (by decide +kernel) (k_Pl hG) ?_
  refine wn_putR (idx := 31) (ci := 10) (j := 3) (pl := 12167) hG rfl (by decide +kernel) (by decide +kernel) (by first | omega | decide) (by decide +kernel) (by first | omega | decide) (by decide +kernel) (by decide +kernel) ?_
  refine wn_aload_n (i := 0) (a := 0) rfl (by decide +kernel) ?_
  refine wn_new (idx := 35) (ci := 6) (r := ("SaidOnce$Search", cT6, 2)) hG (by first | omega | decide) (by decide +kernel) rfl (tb_of (i := 12095) (by decide +kernel)) (tb_of (i := 12096) (by decide +kernel)) (tb_of (i := 11009) (by decide +kernel)) (Nat.le_of_ble_eq_true rfl) (Nat.le_of_ble_eq_true rfl) (by decide +kernel) ?_
  refine wn_dup rfl (by decide +kernel) ?_
  refine wn_aload_n (i := 0) (a := 0) rfl (by decide +kernel) ?_
  refine wn_getR (idx := 19) (ci := 10) (j := 1) (pl := 12165) (v := 3) (by decide +kernel) (by decide +kernel) (by first | omega | decide) (by decide +kernel) (by first | omega | decide) (by decide +kernel) rfl (by decide +kernel) ?_
  refine wn_call (idx := 37) (dx := 0) (cnt := 1) (k := 68) (As := [.ref 3]) (st := [.ref 68, .ref 0]) (n' := 70) rfl o_N_Se rfl rfl rfl (Or.inl (tb_of (i := 12097) (by decide +kernel))) (tb_of (i := 12098) (by decide +kernel)) (tb_of (i := 11009) (by decide +kernel)) rfl (Nat.le_of_ble_eq_true rfl) ⟨(Nat.le_of_ble_eq_true rfl), (Nat.le_of_ble_eq_true rfl), (Nat.le_of_ble_eq_true rfl), (Nat.le_of_ble_eq_true rfl)⟩ (by decide +kernel) (k_Se hG) ?_
  refine wn_putR (idx := 38) (ci := 10) (j := 4) (pl := 12168) hG rfl (by decide +kernel) (by decide +kernel) (by first | omega | decide) (by decide +kernel) (by first | omega | decide) (by decide +kernel) (by decide +kernel) ?_
  refine wn_aload_n (i := 0) (a := 0) rfl (by decide +kernel) ?_
  refine wn_new (idx := 42) (ci := 5) (r := ("SaidOnce$SchoolReader", cT5, 3)) hG (by first | omega | decide) (by decide +kernel) rfl (tb_of (i := 12108) (by decide +kernel)) (tb_of (i := 12109) (by decide +kernel)) (tb_of (i := 11011) (by decide +kernel)) (Nat.le_of_ble_eq_true rfl) (Nat.le_of_ble_eq_true rfl) (by decide +kernel) ?_
  refine wn_dup rfl (by decide +kernel) ?_
  refine wn_aload_n (i := 0) (a := 0) rfl (by decide +kernel) ?_
  refine wn_getR (idx := 10) (ci := 10) (j := 0) (pl := 12164) (v := 1) (by decide +kernel) (by decide +kernel) (by first | omega | decide) (by decide +kernel) (by first | omega | decide) (by decide +kernel) rfl (by decide +kernel) ?_
  refine wn_call (idx := 44) (dx := 0) (cnt := 1) (k := 70) (As := [.ref 1]) (st := [.ref 70, .ref 0]) (n' := 82) rfl o_N_SchR rfl rfl rfl (Or.inl (tb_of (i := 12110) (by decide +kernel))) (tb_of (i := 12111) (by decide +kernel)) (tb_of (i := 11011) (by decide +kernel)) rfl (Nat.le_of_ble_eq_true rfl) ⟨(Nat.le_of_ble_eq_true rfl), (Nat.le_of_ble_eq_true rfl), (Nat.le_of_ble_eq_true rfl), (Nat.le_of_ble_eq_true rfl)⟩ (by decide +kernel) (k_SchR hG) ?_
  refine wn_putR (idx := 47) (ci := 10) (j := 5) (pl := 12169) hG rfl (by decide +kernel) (by decide +kernel) (by first | omega | decide) (by decide +kernel) (by first | omega | decide) (by decide +kernel) (by decide +kernel) ?_
  refine wn_aload_n (i := 0) (a := 0) rfl (by decide +kernel) ?_
  refine wn_new (idx := 51) (ci := 1) (r := ("SaidOnce$LawReader", cT1, 6)) hG (by first | omega | decide) (by decide +kernel) rfl (tb_of (i := 12135) (by decide +kernel)) (tb_of (i := 12136) (by decide +kernel)) (tb_of (i := 11012) (by decide +kernel)) (Nat.le_of_ble_eq_true rfl) (Nat.le_of_ble_eq_true rfl) (by decide +kernel) ?_
  refine wn_dup rfl (by decide +kernel) ?_
  refine wn_aload_n (i := 0) (a := 0) rfl (by decide +kernel) ?_
  refine wn_getR (idx := 10) (ci := 10) (j := 0) (pl := 12164) (v := 1) (by decide +kernel) (by decide +kernel) (by first | omega | decide) (by decide +kernel) (by first | omega | decide) (by decide +kernel) rfl (by decide +kernel) ?_
  refine wn_call (idx := 53) (dx := 0) (cnt := 1) (k := 82) (As := [.ref 1]) (st := [.ref 82, .ref 0]) (n' := 91) rfl o_N_LawR rfl rfl rfl (Or.inl (tb_of (i := 12137) (by decide +kernel))) (tb_of (i := 12138) (by decide +kernel)) (tb_of (i := 11012) (by decide +kernel)) rfl (Nat.le_of_ble_eq_true rfl) ⟨(Nat.le_of_ble_eq_true rfl), (Nat.le_of_ble_eq_true rfl), (Nat.le_of_ble_eq_true rfl), (Nat.le_of_ble_eq_true rfl)⟩ (by decide +kernel) (k_LawR hG) ?_
  refine wn_putR (idx := 54) (ci := 10) (j := 6) (pl := 12170) hG rfl (by decide +kernel) (by decide +kernel) (by first | omega | decide) (by decide +kernel) (by first | omega | decide) (by decide +kernel) (by decide +kernel) ?_
  refine wn_aload_n (i := 0) (a := 0) rfl (by decide +kernel) ?_
  refine wn_bipush (v := 12) (x := (12 : Int32)) (by decide) (by decide +kernel) ?_
  refine wn_newq (idx := 58) (N := 12) hG (by first | omega | decide) (by decide +kernel) (tb_of (i := 12161) (by decide +kernel)) (by decide) (by decide +kernel) (Nat.le_of_ble_eq_true rfl) (Nat.le_of_ble_eq_true rfl) (Nat.le_of_ble_eq_true rfl) (by decide +kernel) ?_
  refine wn_putR (idx := 60) (ci := 10) (j := 7) (pl := 12171) hG rfl (by decide +kernel) (by decide +kernel) (by first | omega | decide) (by decide +kernel) (by first | omega | decide) (by decide +kernel) (by decide +kernel) ?_
  refine wn_iconst (v := 0) (x := nI 0) (by decide) (by decide +kernel) ?_
  refine wn_istore_n (i := 1) (a := nI 0) (by decide) (by decide +kernel) ?_
  refine WN.cast (n' := 92) (nc' := 91) (ns' := 4205) (μ' := w_SO0 μ) (by decide +kernel) (by decide +kernel) (by decide +kernel) rfl ?_
  exact so_loop hG 12 0 92 91 4205 (w_SO0 μ) rfl rfl rfl rfl mI_self
